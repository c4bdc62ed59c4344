/** Promises 2 to 6: the tape, TEXTS, FAULTS, and what a TEXT makes of a MACHINE. */
final class TextsTest {
    private static final Due due = new Due();

    public static void main(String[] args) {
        tape();
        texts();
        wordsAtFault();
        numbersAndLetters();
        told();
        depths();
        forms();
        load();
        due.end();
    }

    private static void tape() {
        FencedStates x = new FencedStates();
        due.is("end(0)", x.end(0), 0);
        due.is("end(1)", x.end(1), -1);
        due.is("end(-1)", x.end(-1), -1);
        for (int n = 1; n <= 15; n++) {
            due.is("feed " + n, x.feed(0x20202020, 0x20202020, 0x20202020, 0x20202020, 0x20202020), 20 * n);
        }
        due.is("feed 16", x.feed(0, 0, 0, 0, 0), -1);
        due.is("about(3)", x.about(3), 300);
        due.is("end(301)", x.end(301), -1);
        due.is("end(281)", x.end(281), 281);
        due.is("feed beyond", x.feed(0, 0, 0, 0, 0), -1);
        due.is("about(3)", x.about(3), 281);
        due.is("end(280)", x.end(280), 280);
        due.is("feed up to 300", x.feed(0x20202020, 0x20202020, 0x20202020, 0x20202020, 0x0a0a0a0a), 300);
        due.is("text of blanks", x.text(), 0);
        due.is("about(3)", x.about(3), 0);
        cut("letters 39;", 9);
        cut("bad ab", 5);
        FencedStates y = new FencedStates();
        y.feed(0x62616420, 0x3b612020, 0, 0, 0);
        y.end(8);
        due.is("the highest byte first", y.text(), -1);
        due.is("place", y.fault(1), 4);
    }

    /** Nothing is read of what lay behind the end. */
    private static void cut(String text, int size) {
        FencedStates x = new FencedStates();
        Due.feed(x, text);
        due.is("end", x.end(size), size);
        due.is("text", x.text(), -1);
        due.is("fault(0)", x.fault(0), 1);
        due.is("fault(1)", x.fault(1), size);
    }

    private static void texts() {
        FencedStates x = new FencedStates();
        due.is("fault(0) ahead of any", x.fault(0), -1);
        due.is("fault(1) ahead of any", x.fault(1), -1);
        due.is("an empty text", x.text(), 0);
        due.is("fault(0)", x.fault(0), 0);
        due.is("fault(1)", x.fault(1), -1);
        due.is("fault(2)", x.fault(2), -1);
        due.is("fault(-1)", x.fault(-1), -1);
        due.is("second", Due.read(x, "bad a;"), 1);
        due.is("at fault", Due.read(x, "bad a"), -1);
        due.is("fault(0)", x.fault(0), 1);
        due.is("the tape is empty behind a fault", x.about(3), 0);
        due.is("third", Due.read(x, "bad b;"), 2);
        due.is("fourth", Due.read(x, "bad c;"), 3);
        due.is("about(0)", x.about(0), 4);
        due.is("fifth", Due.read(x, "bad"), -1);
        due.is("the tape stays", x.about(3), 3);
        due.is("it was not read", x.fault(0), 0);
    }

    private static void faulty(String text, int fault, int place) {
        FencedStates x = new FencedStates();
        due.is("text of " + text, Due.read(x, text), fault == 0 ? 0 : -1);
        due.is("fault(0) of " + text, x.fault(0), fault);
        due.is("fault(1) of " + text, x.fault(1), place);
        due.is("about(0) of " + text, x.about(0), fault == 0 ? 1 : 0);
    }

    private static void wordsAtFault() {
        faulty("letter 3;", 1, 0);
        faulty(" lettersx 3;", 1, 1);
        faulty("a;", 1, 0);
        faulty("x;", 1, 0);
        faulty("7;", 1, 0);
        faulty(";", 1, 0);
        faulty("bad a;;", 1, 6);
        faulty("bad ;", 1, 4);
        faulty("bad a b;", 1, 6);
        faulty("bad a 2;", 1, 6);
        faulty("bad a x;", 1, 6);
        faulty("bad a d;", 1, 6);
        faulty("bad a !b;", 1, 6);
        faulty("bad ab;", 1, 4);
        faulty("bad A;", 1, 4);
        faulty("bad\ta;", 1, 3);
        faulty("bad " + (char) 233 + ";", 1, 4);
        faulty("bad" + (char) 0 + "a;", 1, 3);
        faulty("bad\na;", 0, -1);
        faulty("bad a);", 1, 5);
        faulty("bad (a;", 1, 6);
        faulty("bad a&;", 1, 6);
        faulty("bad &a;", 1, 4);
        faulty("bad a", 1, 5);
        faulty("bad a  \n", 1, 8);
        faulty("bad", 1, 3);
        faulty("init", 1, 4);
        faulty("next", 1, 4);
        faulty("next a", 1, 6);
        faulty("next a;", 1, 6);
        faulty("next x;", 1, 5);
        faulty("next 1 a;", 1, 5);
        faulty("next init a;", 1, 5);
        faulty("next ab a;", 1, 5);
        faulty("next ;", 1, 5);
        faulty("letters ;", 1, 8);
        faulty("mad a;", 1, 0);
        faulty("knit a;", 1, 0);
        faulty("text a b;", 1, 0);
        faulty("betters 3;", 1, 0);
        faulty("bad az;", 1, 4);
        faulty(" ".repeat(297) + "bad", 1, 300);
        faulty(" ".repeat(294) + "bad a;", 0, -1);
        faulty("bad a" + "&a".repeat(147) + ";", 0, -1);
        faulty("bad a" + "&a".repeat(147) + "&", 1, 300);
        faulty("letters", 1, 7);
        faulty("letters a;", 1, 8);
        faulty("letters 3", 1, 9);
        faulty("letters 3 a", 1, 10);
        faulty("letters 3; letters 3;", 1, 11);
        faulty("bad a; letters 3;", 1, 7);
        faulty("bad init;", 1, 4);
        faulty("init a init b;", 1, 7);
        faulty("bad a + b;", 1, 6);
    }

    private static void numbersAndLetters() {
        faulty("letters 0;", 2, 8);
        faulty("letters 7;", 2, 8);
        faulty("letters 4294967297;", 2, 8);
        faulty("letters 18446744073709551617;", 2, 8);
        faulty("letters 16;", 2, 8);
        faulty("letters 9;", 2, 8);
        faulty("letters 39;", 2, 8);
        faulty("letters 006;", 0, -1);
        faulty("letters6;bad f;", 0, -1);
        faulty("letters 1;bad a;", 0, -1);
        faulty("letters 1;bad b;", 3, 14);
        faulty("letters 5;bad f;", 3, 14);
        faulty("letters 6;bad g;", 1, 14);
        faulty("bad d;", 3, 4);
        faulty("bad 2;", 2, 4);
        faulty("bad 10;", 2, 4);
        faulty("bad 4294967296;", 2, 4);
        faulty("bad 0;bad 1;", 0, -1);
        faulty("bad 00;bad 01;", 0, -1);
        faulty("next d a;", 3, 5);
        faulty("next b d;", 3, 7);
        faulty("init x;", 5, 5);
        faulty("bad a|y;", 5, 6);
        faulty("next a x&y;", 0, -1);
        faulty("next a x; bad x;", 5, 14);
        faulty("next a z;", 1, 7);
    }

    private static void told() {
        faulty("init a; init b;", 4, 8);
        faulty("init a; init", 4, 8);
        faulty("next a b;next b a;next a c;", 4, 23);
        faulty("bad a;bad a;bad a;bad a;", 0, -1);
        faulty("bad a;bad a;bad a;bad a;bad a;", 4, 24);
        faulty("bad a;init b;next c a;bad b;bad c;bad a;bad", 4, 40);
    }

    private static void depths() {
        faulty("bad !!!!!!!!!!a;", 0, -1);
        faulty("bad !!!!!!!!!!!a;", 6, 14);
        faulty("bad ((((((((((a))))))))));", 0, -1);
        faulty("bad (((((((((((a)))))))))));", 6, 14);
        faulty("bad !(!(!(!(!(a)))));", 0, -1);
        faulty("bad !(!(!(!(!(!a)))));", 6, 14);
        faulty("bad !(!(!(!(!(a&!b)))));", 6, 16);
        faulty("bad !!!!!!!!!!a & !!!!!!!!!!b;", 0, -1);
        faulty("bad ((((((((((a)))))))))) | ((((((((((b)&!c)))))))));", 0, -1);
        faulty("bad a((((((((((((", 1, 5);
        faulty("next a !!!!!!!!!!!a;", 6, 17);
    }

    private static void sameStates(String form, String bits) {
        FencedStates x = Due.of("bad " + form + ";");
        for (int state = 0; state < 8; state++) {
            due.is(form + " in " + state, x.of(state, 0), bits.charAt(state) == '1');
        }
    }

    private static void forms() {
        sameStates("0", "00000000");
        sameStates("1", "11111111");
        sameStates("a", "01010101");
        sameStates("b", "00110011");
        sameStates("c", "00001111");
        sameStates("!a", "10101010");
        sameStates("a|b&c", "01010111");
        sameStates("(a|b)&c", "00000111");
        sameStates("a^b&c", "01010110");
        sameStates("a|b^b", "01010101");
        sameStates("(a|b)^b", "01000100");
        sameStates("a^b|b", "01110111");
        sameStates("!a&b", "00100010");
        sameStates("!(a&b)", "11101110");
        sameStates("!!a", "01010101");
        sameStates("a^1^1^c", "01011010");
    }

    private static void load() {
        FencedStates x = new FencedStates();
        due.is("load(0)", x.load(0), -1);
        Due.read(x, "letters 6; init f; bad e; bad f; next a x; next b y; next c x&!y|a;");
        Due.read(x, "letters 1;");
        Due.read(x, "");
        due.is("load(-1)", x.load(-1), -1);
        due.is("load(3)", x.load(3), -1);
        due.is("about(1)", x.about(1), 0);
        due.is("load(0)", x.load(0), 6);
        due.is("is(4)", x.is(4), 2);
        due.is("of(31, NONE)", x.of(31, -1), false);
        due.is("of(32, NONE)", x.of(32, -1), true);
        due.is("of(16, 0)", x.of(16, 0), true);
        due.is("of(16, 1)", x.of(16, 1), false);
        due.is("successor(56, 0)", x.successor(56, 0), 56);
        due.is("successor(56, 1)", x.successor(56, 1), 61);
        due.is("successor(56, 2)", x.successor(56, 2), 58);
        due.is("successor(56, 3)", x.successor(56, 3), 59);
        due.is("successor(57, 0)", x.successor(57, 0), 60);
        due.is("load(1)", x.load(1), 1);
        due.is("of(0, NONE)", x.of(0, -1), true);
        due.is("of(1, NONE)", x.of(1, -1), false);
        due.is("successor(1, 3)", x.successor(1, 3), 1);
        due.is("load(2)", x.load(2), 3);
        due.is("is(4)", x.is(4), 1);
        due.is("bad(1)", x.bad(1), 0);
        due.is("about(1)", x.about(1), 3);
    }
}
