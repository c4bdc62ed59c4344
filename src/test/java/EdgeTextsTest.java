/** Each sentence of part II and of promises 2 to 6, at its edges. */
final class EdgeTextsTest {
    private static final Due due = new Due();
    private static final int BLANKS = 0x20202020;

    public static void main(String[] args) {
        feed();
        feedTooMuch();
        end();
        endTooFar();
        text();
        textRefused();
        fault();
        load();
        everyByte();
        tokens();
        lettersClause();
        clauses();
        forms();
        ones();
        without();
        order();
        leastOfOne();
        faultsOneToThree();
        faultsFourAndFive();
        faultSix();
        due.end();
    }

    private static FencedStates taped(int size) {
        FencedStates x = new FencedStates();
        for (int n = 0; n < size; n += 20) {
            x.feed(BLANKS, BLANKS, BLANKS, BLANKS, BLANKS);
        }
        x.end(size);
        return x;
    }

    private static void feed() {
        due.sentence(2, "Twenty bytes come behind the tape, the highest of a first: how many it has.");
        FencedStates x = new FencedStates();
        // "letters 2;bad a&!b; "
        due.is("feed", x.feed(0x6c657474, 0x65727320, 0x323b6261, 0x6420613b, 0x6261643b), 20);
        due.is("end", x.end(16), 16);
        // "bad b|!a&b;" behind these, and 9 bytes more
        due.is("feed", x.feed(0x62616420, 0x627c2161, 0x26623bff, -1, Integer.MIN_VALUE), 36);
        due.is("end", x.end(27), 27);
        due.is("text", x.text(), 0);
        due.is("load", x.load(0), 2);
        due.is("AIMS", x.is(4), 2);
        for (int state = 0; state < 4; state++) {
            due.is("of " + state, x.of(state, 0), state % 2 == 1);
            due.is("of " + state, x.of(state, 1), state > 1);
        }
        // the first byte of each of the five is its highest
        for (int place = 0; place < 20; place++) {
            int[] five = new int[5];
            java.util.Arrays.fill(five, BLANKS);
            five[place / 4] = BLANKS ^ (BLANKS ^ '#' * 0x01010101) & 0xff000000 >>> place % 4 * 8;
            FencedStates y = new FencedStates();
            y.feed(five[0], five[1], five[2], five[3], five[4]);
            due.is("text", y.text(), -1);
            due.is("the place of byte " + place, y.fault(1), place);
        }
    }

    private static void feedTooMuch() {
        due.sentence(2, "NONE, and none come, if there would be more than 300.");
        for (int size = 0; size <= 300; size++) {
            FencedStates x = taped(size);
            boolean fits = size <= 280;
            due.is("feed to " + size, x.feed(BLANKS, BLANKS, BLANKS, BLANKS, BLANKS), fits ? size + 20 : -1);
            due.is("about(3)", x.about(3), fits ? size + 20 : size);
        }
        FencedStates x = taped(275);
        Due.feed(x, "bad a;");
        due.is("about(3)", x.about(3), 281);
        due.is("feed", x.feed(-1, -1, -1, -1, -1), -1);
        due.is("about(3)", x.about(3), 281);
        due.is("text", x.text(), 0);
        due.is("load", x.load(0), 3);
        due.is("of", x.of(1, 0), true);
    }

    private static void end() {
        due.sentence(3, "The tape has its first n bytes alone: n.");
        for (int n = 0; n <= 20; n++) {
            FencedStates x = new FencedStates();
            x.feed(0x62616420, 0x613b2323, 0x23232323, 0x23232323, 0x23232323);
            due.is("end(" + n + ")", x.end(n), n);
            due.is("about(3)", x.about(3), n);
            boolean whole = n == 0 || n == 6;
            due.is("text", x.text(), whole ? 0 : -1);
            // up to 6 the end is where the fault is, or the word that is cut at 0; then the 7th byte is
            due.is("fault(1)", x.fault(1), whole ? -1 : n < 3 ? 0 : Math.min(n, 6));
        }
        FencedStates full = taped(300);
        due.is("end(300)", full.end(300), 300);
        due.is("end(299)", full.end(299), 299);
        due.is("end(300)", full.end(300), -1);
    }

    private static void endTooFar() {
        due.sentence(3, "NONE, and nothing is done, if it has not so many, or n is below 0.");
        for (int size : new int[] {0, 1, 19, 20, 21, 299, 300}) {
            for (int n : new int[] {size + 1, -1, 301, Integer.MAX_VALUE, Integer.MIN_VALUE}) {
                FencedStates x = taped(size);
                due.is("end(" + n + ") of " + size, x.end(n), -1);
                due.is("about(3)", x.about(3), size);
            }
        }
        FencedStates x = new FencedStates();
        Due.feed(x, "bad c;");
        x.end(7);
        x.end(-1);
        due.is("text", x.text(), 0);
        due.is("load", x.load(0), 3);
        due.is("of", x.of(4, 0), true);
        due.is("of", x.of(3, 0), false);
    }

    private static void text() {
        due.sentence(4, "The tape (empty then) is a TEXT: its number.");
        FencedStates x = new FencedStates();
        for (int n = 0; n < 4; n++) {
            Due.feed(x, "letters " + (n + 2) + ";");
            due.is("text", x.text(), n);
            due.is("about(0)", x.about(0), n + 1);
            due.is("about(3)", x.about(3), 0);
            due.is("end(1)", x.end(1), -1);
        }
        for (int n = 0; n < 4; n++) {
            due.is("load", x.load(n), n + 2);
        }
        due.is("text of nothing", new FencedStates().text(), 0);
        due.sentence(0, "3: of up to 300 bytes.");
        StringBuilder longest = new StringBuilder("letters 6;bad f|");
        while (longest.length() < 298) {
            longest.append("a&");
        }
        due.is("text of 300", Due.read(new FencedStates(), longest.toString() + "a;"), 0);
        FencedStates y = new FencedStates();
        due.is("300 bytes without their ;", Due.read(y, longest.toString() + " a"), -1);
        due.is("fault(1)", y.fault(1), 300);
    }

    private static void textRefused() {
        due.sentence(4, "NONE: it has a FAULT; or (the tape stays) there are 4.");
        FencedStates x = new FencedStates();
        x.image();
        due.is("text", Due.read(x, "bad"), -1);
        due.is("the tape is empty", x.about(3), 0);
        due.is("about(0)", x.about(0), 0);
        due.is("it has no number", Due.read(x, "letters 2;"), 0);
        due.is("text", Due.read(x, "?"), -1);
        due.is("it has no number", Due.read(x, "letters 4;"), 1);
        x.text();
        x.text();
        due.is("about(0)", x.about(0), 4);
        due.is("a good one", Due.read(x, "letters 5;"), -1);
        due.is("the tape stays", x.about(3), 10);
        due.is("fault(0)", x.fault(0), 0);
        due.is("one at FAULT", Due.read(x, "bad"), -1);
        due.is("the tape stays", x.about(3), 13);
        due.is("fault(0)", x.fault(0), 0);
        due.is("fault(1)", x.fault(1), -1);
        due.is("load(3)", x.load(3), 3);
        due.is("load(4)", x.load(4), -1);
        x.end(10);
        x.back();
        due.is("as there are none now", x.text(), 0);
        due.is("load", x.load(0), 5);
    }

    private static void fault() {
        due.sentence(5, "NONE for others, and ahead of any.");
        FencedStates x = new FencedStates();
        for (int what : new int[] {0, 1, 2, -1}) {
            due.is("fault(" + what + ")", x.fault(what), -1);
        }
        x.feed(-1, -1, -1, -1, -1);
        x.end(0);
        x.drawn(1, 1);
        due.is("fault(0)", x.fault(0), -1);
        due.is("fault(1)", x.fault(1), -1);
        due.sentence(5, "Of the latest text that was read: 0 its FAULT (0 without), 1 its place (NONE without).");
        Due.read(x, " bad 5;");
        due.is("fault(0)", x.fault(0), 2);
        due.is("fault(1)", x.fault(1), 5);
        Due.read(x, "q");
        due.is("fault(0)", x.fault(0), 1);
        due.is("fault(1)", x.fault(1), 0);
        Due.read(x, "bad 1;");
        due.is("fault(0)", x.fault(0), 0);
        due.is("fault(1)", x.fault(1), -1);
        due.sentence(5, "NONE for others, and ahead of any.");
        Due.read(x, "bad x;");
        due.is("fault(2)", x.fault(2), -1);
        due.is("fault(-1)", x.fault(-1), -1);
        for (int what : Due.OUTSIDE) {
            due.is("fault(" + what + ")", x.fault(what), -1);
        }
        x.undo();
        x.back();
        due.is("fault(0)", x.fault(0), 5);
        due.is("fault(1)", x.fault(1), 4);
    }

    private static void load() {
        due.sentence(6, "The MACHINE of a TEXT comes: LETTERS.");
        FencedStates x = new FencedStates();
        for (int n = 0; n < 4; n++) {
            for (int other = -1; other <= 4; other++) {
                due.is("load(" + other + ") of " + n, x.load(other), other >= 0 && other < n ? other + 1 : -1);
            }
            Due.read(x, "letters " + (n + 1) + ";");
            due.is("load(" + n + ")", x.load(n), n + 1);
            due.is("is(0)", x.is(0), n + 1);
        }
        due.sentence(6, "NONE for others.");
        int back = x.about(1);
        for (int n : Due.OUTSIDE) {
            due.is("load(" + n + ")", x.load(n), -1);
        }
        due.is("load(4)", x.load(4), -1);
        due.is("load(-1)", x.load(-1), -1);
        due.is("is(0)", x.is(0), 4);
        due.is("about(1)", x.about(1), back);
    }

    private static void faulty(String text, int fault, int place) {
        FencedStates x = new FencedStates();
        due.is("text of " + text, Due.read(x, text), fault == 0 ? 0 : -1);
        due.is("fault(0) of " + text, x.fault(0), fault);
        due.is("fault(1) of " + text, x.fault(1), place);
    }

    /** Each byte there is, behind a whole FORM. */
    private static void everyByte() {
        due.sentence(0, "TOKENS, blanks (32, 10) aside: letters a .. z one behind the other (one TOKEN), digits"
            + " likewise (NUMBERS), ( ) ! & ^ | ; (each).");
        for (int one = 0; one < 256; one++) {
            String text = "bad a" + (char) one + ";";
            if (one == 32 || one == 10) {
                faulty(text, 0, -1);
            } else if (one >= 'a' && one <= 'z') {
                faulty(text, 1, 4);
            } else if (one == '&' || one == '^' || one == '|' || one == ';') {
                faulty(text, 1, 6);
            } else {
                faulty(text, 1, 5);
            }
            // where a CLAUSE may begin, nothing that is no blank can stand alone
            faulty("" + (char) one, one == 32 || one == 10 ? 0 : 1, one == 32 || one == 10 ? -1 : 0);
        }
    }

    private static void tokens() {
        faulty("bada;", 1, 0);
        faulty("ba d a;", 1, 0);
        faulty("b\nad a;", 1, 0);
        faulty("bad(a);", 0, -1);
        faulty("bad!a;", 0, -1);
        faulty("bad a b;", 1, 6);
        faulty("bad ab;", 1, 4);
        faulty("bad 1 1;", 1, 6);
        faulty("bad 11;", 2, 4);
        faulty("bad1;", 0, -1);
        faulty("bad a1;", 1, 5);
        faulty("bad 1a;", 1, 5);
        faulty("letters3;", 0, -1);
        faulty("letters 1 0;", 1, 10);
        faulty("letters 10;", 2, 8);
        faulty("  bad\n\na  ;\n ", 0, -1);
        faulty("nexta a;", 1, 0);
        faulty("next aa;", 1, 5);
        faulty("next a!a;next b(b);", 0, -1);
        faulty("next a a next b b;", 1, 9);
    }

    private static void lettersClause() {
        due.sentence(0, "6, if it is told: the first CLAUSE)");
        for (int n = 0; n <= 12; n++) {
            boolean told = n >= 1 && n <= 6;
            faulty("letters " + n + ";", told ? 0 : 2, told ? -1 : 8);
        }
        faulty("letters 2147483648;", 2, 8);
        faulty("letters 4294967298;", 2, 8);
        faulty("letters 2;letters 2;", 1, 10);
        faulty("letters 2;init a;letters 2;", 1, 17);
        faulty("init a;letters 2;", 1, 7);
        faulty("next a a;letters 2;", 1, 9);
        faulty("letters 2;init a;", 0, -1);
        faulty("letters;", 1, 7);
        faulty("letters a;", 1, 8);
        faulty("letters x;", 1, 8);
        faulty("letters -1;", 1, 8);
        faulty("letters (2);", 1, 8);
        faulty("letters 2", 1, 9);
        faulty("letters 2 2;", 1, 10);
    }

    private static void clauses() {
        due.sentence(0, "or init FORM ; or bad FORM ; (an AIM) or next LETTER FORM ; (its value in the SUCCESSOR).");
        faulty("", 0, -1);
        faulty("bad a;init b;next b a;bad b;next a x;", 0, -1);
        faulty("init;", 1, 4);
        faulty("init a", 1, 6);
        faulty("init a;;", 1, 7);
        faulty("bad a;", 0, -1);
        faulty("bad;", 1, 3);
        faulty("bad", 1, 3);
        faulty("next;", 1, 4);
        faulty("next a;", 1, 6);
        faulty("next a b", 1, 8);
        faulty("next 0 b;", 1, 5);
        faulty("next (a) b;", 1, 5);
        faulty("next a a b;", 1, 9);
        FencedStates x = Due.of("next b y;bad c;init a;bad b;next a x;");
        due.is("AIMS", x.is(4), 2);
        for (int state = 0; state < 8; state++) {
            due.is("INIT", x.of(state, -1), state % 2 == 1);
            due.is("AIM 0", x.of(state, 0), state > 3);
            due.is("AIM 1", x.of(state, 1), state / 2 % 2 == 1);
            for (int input = 0; input < 4; input++) {
                due.is("SUCCESSOR", x.successor(state, input), (state & 4) + input);
            }
        }
    }

    private static int join(char sign, int one, int other) {
        return sign == '|' ? one | other : sign == '^' ? one ^ other : one & other;
    }

    private static int rank(char sign) {
        return "|^&".indexOf(sign);
    }

    /** Three LETTERS joined by two signs: the tighter one first, of like ones the first. */
    private static void forms() {
        due.sentence(0, "ODD {| ODD}.");
        due.sentence(0, "BOTH {^ BOTH}.");
        due.sentence(0, "ONE {& ONE}.");
        for (char p : "|^&".toCharArray()) {
            for (char q : "|^&".toCharArray()) {
                FencedStates x = Due.of("bad a" + p + "b" + q + "c;bad !a" + p + "b" + q + "!c;bad (a" + p + "b)" + q
                    + "c;bad a" + p + "(b" + q + "c);");
                for (int s = 0; s < 8; s++) {
                    int a = s & 1;
                    int b = s >> 1 & 1;
                    int c = s >> 2;
                    int left = join(q, join(p, a, b), c);
                    int right = join(p, a, join(q, b, c));
                    String name = "a" + p + "b" + q + "c in " + s;
                    due.is(name, x.of(s, 0), (rank(q) > rank(p) ? right : left) == 1);
                    int turned = rank(q) > rank(p) ? join(p, 1 - a, join(q, b, 1 - c))
                        : join(q, join(p, 1 - a, b), 1 - c);
                    due.is("with ! " + name, x.of(s, 1), turned == 1);
                    due.is("( ) first " + name, x.of(s, 2), left == 1);
                    due.is("( ) last " + name, x.of(s, 3), right == 1);
                }
            }
        }
        String[] broken = {"|a", "a|", "a||b", "^a", "a^", "a^^b", "&a", "a&", "a&&b", "a|&b", "a!b", "a!", "!", "()",
            "(a", "!|a", "a(b)"};
        int[] places = {0, 2, 2, 0, 2, 2, 0, 2, 2, 2, 1, 1, 1, 1, 2, 1, 1};
        for (int i = 0; i < broken.length; i++) {
            faulty("bad " + broken[i] + ";", 1, 4 + places[i]);
        }
        faulty("bad a);", 1, 5);
    }

    private static void ones() {
        due.sentence(0, "ONE: ! ONE, ( FORM ), a LETTER, x or y (in next alone), NUMBER 0 or 1.");
        FencedStates x = Due.of("letters 6;bad 0;bad 1;bad !!a;bad !(!((f)));next a x;next b !y;next c x^y;next d 0;"
            + "next e 1;");
        for (int s = 0; s < 64; s++) {
            due.is("0", x.of(s, 0), false);
            due.is("1", x.of(s, 1), true);
            due.is("!!a", x.of(s, 2), s % 2 == 1);
            due.is("f", x.of(s, 3), s >= 32);
            // x as it is, y turned over, then whether one of the two alone is 1
            int[] low = {2, 1 + 2 + 4, 4, 1};
            for (int input = 0; input < 4; input++) {
                due.is("SUCCESSOR of " + s, x.successor(s, input), low[input] + 16 + (s & 32));
            }
        }
        faulty("bad 2;", 2, 4);
        faulty("next a 2;", 2, 7);
        faulty("next a 1|x&0;", 0, -1);
    }

    private static void without() {
        due.sentence(0, "3 LETTERS, INIT STATE 0, one AIM (none), a LETTER stays as it is.");
        FencedStates x = Due.of("");
        due.is("LETTERS", x.is(0), 3);
        due.is("AIMS", x.is(4), 1);
        for (int s = 0; s < 8; s++) {
            due.is("INIT", x.of(s, -1), s == 0);
            due.is("AIM", x.of(s, 0), false);
            due.is("AIM 1", x.of(s, 1), false);
            for (int input = 0; input < 4; input++) {
                due.is("SUCCESSOR", x.successor(s, input), s);
            }
        }
        FencedStates y = Due.of("letters 6;next c !c;");
        for (int s = 0; s < 64; s++) {
            due.is("SUCCESSOR", y.successor(s, s % 4), s ^ 4);
            due.is("INIT", y.of(s, -1), s == 0);
        }
        faulty("bad c;", 0, -1);
        faulty("bad d;", 3, 4);
    }

    private static void order() {
        due.sentence(0, "FAULTS, the first as TOKENS are come to, at the TOKEN's first byte (of the end at the"
            + " length)");
        faulty("bad d;bad 2;", 3, 4);
        faulty("bad 2;bad d;", 2, 4);
        faulty("bad a; ? bad 2;", 1, 7);
        faulty("bad 2; ?", 2, 4);
        faulty("bad x;init x;", 5, 4);
        faulty("init a;init b;bad ?;", 4, 7);
        faulty("bad  abc;", 1, 5);
        faulty("bad \n 77;", 2, 6);
        faulty("bad a", 1, 5);
        faulty("bad a \n ", 1, 8);
        faulty("bad", 1, 3);
        faulty("bad ", 1, 4);
        faulty(" ".repeat(300), 0, -1);
        faulty(" ".repeat(297) + "bad", 1, 300);
        faulty(" ".repeat(299) + ";", 1, 299);
        faulty(";" + " ".repeat(299), 1, 0);
    }

    private static void leastOfOne() {
        due.sentence(0, "of one the least");
        // it can't stand there, beside what else is wrong with it
        faulty("init a;bad b init a;", 1, 13);
        faulty("next a b;next b next a b;", 1, 16);
        faulty("bad a;bad a;bad a;bad b bad a;", 1, 24);
        faulty("bad a d;", 1, 6);
        faulty("bad a 7;", 1, 6);
        faulty("bad a x;", 1, 6);
        faulty("x;", 1, 0);
        faulty("d;", 1, 0);
        faulty("7;", 1, 0);
        faulty("next x a;", 1, 5);
        faulty("next y a;", 1, 5);
        faulty("next 2 a;", 1, 5);
        faulty("letters d;", 1, 8);
        faulty("letters y;", 1, 8);
        faulty("bad !!!!!!!!!!a!a;", 1, 15);
        faulty("bad ((((((((((a(", 1, 15);
        // a LETTER that is none of these can't be told for the second time either
        faulty("next d a;next d a;", 3, 5);
    }

    private static void faultsOneToThree() {
        due.sentence(0, "1 it can't stand there, or is none.");
        faulty("bad $;", 1, 4);
        faulty("bad aa;", 1, 4);
        faulty("bad g;", 1, 4);
        faulty("bad w;", 1, 4);
        faulty("bad z;", 1, 4);
        faulty("letters 6;bad g;", 1, 14);
        faulty("next g a;", 1, 5);
        faulty("bad init;", 1, 4);
        faulty("bad xy;", 1, 4);
        faulty("Bad a;", 1, 0);
        faulty("mad a;", 1, 0);
        faulty("ban a;", 1, 0);
        faulty("knit a;", 1, 0);
        faulty("inis a;", 1, 0);
        faulty("text a a;", 1, 0);
        faulty("nexs a a;", 1, 0);
        faulty("betters 3;", 1, 0);
        faulty("letterz 3;", 1, 0);
        faulty("letter 3;", 1, 0);
        faulty("letterss 3;", 1, 0);
        faulty("bads a;", 1, 0);
        due.sentence(0, "2 a NUMBER that isn't one of those told.");
        faulty("letters 0;", 2, 8);
        faulty("letters 7;", 2, 8);
        faulty("init 2;", 2, 5);
        faulty("bad !(a|9);", 2, 8);
        faulty("next a 2;", 2, 7);
        faulty("bad 4294967297;", 2, 4);
        faulty("bad 18446744073709551616;", 2, 4);
        faulty("bad " + "1".repeat(290) + ";", 2, 4);
        due.sentence(0, "3 a LETTER (a .. f) that is none of LETTERS.");
        for (int letters = 1; letters <= 6; letters++) {
            for (char letter = 'a'; letter <= 'g'; letter++) {
                int fault = letter == 'g' ? 1 : letter - 'a' >= letters ? 3 : 0;
                faulty("letters " + letters + ";bad " + letter + ";", fault, fault == 0 ? -1 : 14);
                faulty("letters " + letters + ";init " + letter + ";", fault, fault == 0 ? -1 : 15);
                faulty("letters " + letters + ";next " + letter + " a;", fault, fault == 0 ? -1 : 15);
                faulty("letters " + letters + ";next a " + letter + ";", fault, fault == 0 ? -1 : 17);
            }
        }
    }

    private static void faultsFourAndFive() {
        due.sentence(0, "4 init, next of a LETTER for the second time, the 5th bad (at that word; of next at the"
            + " LETTER).");
        faulty("init a;bad a;init", 4, 13);
        faulty("init a;  init", 4, 9);
        faulty("init 0;init 0;", 4, 7);
        for (char letter = 'a'; letter <= 'f'; letter++) {
            faulty("letters 6;next " + letter + " a;next " + letter, 4, 24);
        }
        faulty("letters 6;next a a;next b a;next c a;next d a;next e a;next f a;", 0, -1);
        faulty("letters 6;next a a;next b a;next c a;next d a;next e a;next f a;next d", 4, 69);
        faulty("bad a;bad a;bad a;bad a;", 0, -1);
        faulty("bad a;bad a;bad a;bad a;bad", 4, 24);
        faulty("bad a;bad a;bad a;bad a; init a; bad a;", 4, 33);
        due.sentence(0, "5 x or y elsewhere.");
        faulty("init x;", 5, 5);
        faulty("init y;", 5, 5);
        faulty("bad a&!(b|y);", 5, 10);
        faulty("next a x;bad x;", 5, 13);
        faulty("next a x;init y;next b x;", 5, 14);
        faulty("next a x;next b y;next c !(x^y);", 0, -1);
    }

    /** Each string of ten is taken, with the eleventh it is not. */
    private static void faultSix() {
        due.sentence(0, "6 the 11th of ! and ( that are open around one another (at it).");
        for (int bits = 0; bits < 2048; bits += 13) {
            StringBuilder open = new StringBuilder();
            StringBuilder shut = new StringBuilder();
            for (int n = 0; n < 11; n++) {
                open.append((bits >> n & 1) == 1 ? '(' : '!');
                shut.append((bits >> n & 1) == 1 ? ")" : "");
            }
            String ten = open.substring(0, 10);
            String shutTen = ")".repeat(Integer.bitCount(bits & 1023));
            faulty("bad " + ten + "a" + shutTen + ";", 0, -1);
            faulty("bad " + open + "a" + shut + ";", 6, 14);
            faulty("next a " + ten + "x" + shutTen + "&" + open, 6, 7 + 11 + shutTen.length() + 1 + 10);
        }
        faulty("init !!!!!!!!!!a;", 0, -1);
        faulty("init !!!!!!!!!!!a;", 6, 15);
        faulty("init ((((((((((a))))))))));", 0, -1);
        // those that are shut are not open any more
        faulty("bad !!!!!!!!!!a&!!!!!!!!!!b|!!!!!!!!!!c;", 0, -1);
        faulty("bad (((((((((!a|!b&!c^(c))))))))));", 0, -1);
        faulty("bad ((((((((((!a))))))))));", 6, 14);
        faulty("bad ((((((((((a)&(b))))))))))&!(!(c));", 0, -1);
        faulty("bad !((((((((((a))))))))));", 6, 14);
        faulty("bad (((((((((!a&!(b)", 6, 17);
        faulty("bad (((((((((((((((", 6, 14);
    }
}
