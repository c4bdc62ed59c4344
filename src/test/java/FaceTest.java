import java.lang.reflect.Constructor;
import java.lang.reflect.Field;
import java.lang.reflect.Method;
import java.lang.reflect.Modifier;
import java.nio.file.Files;
import java.nio.file.Path;
import java.util.Arrays;
import java.util.Set;
import java.util.TreeSet;
import java.util.stream.Collectors;

/** The public face as the document lists it, and what can be looked up of the language rules. */
final class FaceTest {
    private static final Due due = new Due();

    public static void main(String[] args) throws Exception {
        face();
        classes();
        source();
        due.end();
    }

    /** The lines of the document's face, each as a method's types and name. */
    private static Set<String> documented() throws Exception {
        Path doc = Path.of(System.getenv().getOrDefault("FENCED_STATES_ROOT", "."), "..", "shared", "DOC.md");
        Set<String> face = new TreeSet<>();
        for (String line : Files.readAllLines(doc)) {
            String trimmed = line.trim();
            if (line.startsWith("    public ") && trimmed.endsWith(");") && !trimmed.contains("FencedStates(")) {
                face.add(trimmed.substring(7, trimmed.length() - 1).replaceAll(" \\w+([,)])", "$1"));
            }
        }
        return face;
    }

    private static void face() throws Exception {
        Set<String> wanted = documented();
        due.is("methods of the document", wanted.size(), 57);
        Set<String> found = new TreeSet<>();
        Set<String> names = new TreeSet<>();
        for (Method m : FencedStates.class.getDeclaredMethods()) {
            if (Modifier.isPublic(m.getModifiers())) {
                found.add(m.getReturnType() + " " + m.getName() + Arrays.stream(m.getParameterTypes())
                    .map(Class::toString).collect(Collectors.joining(", ", "(", ")")));
                names.add(m.getName());
            }
        }
        due.is("the face is " + found + ", the document's is " + wanted, found.equals(wanted), true);
        for (Method m : FencedStates.class.getDeclaredMethods()) {
            boolean open = Modifier.isPublic(m.getModifiers());
            due.is(m + " is public or private", open || Modifier.isPrivate(m.getModifiers()), true);
            due.is(m + " bears a public name", !open && names.contains(m.getName()), false);
        }
        for (Field f : FencedStates.class.getDeclaredFields()) {
            boolean open = Modifier.isPublic(f.getModifiers());
            due.is(f + " is public or private", open || Modifier.isPrivate(f.getModifiers()), true);
            due.is(f + " is of the face", !open || f.getName().equals("NONE"), true);
        }
        Constructor<?>[] made = FencedStates.class.getDeclaredConstructors();
        due.is("constructors", made.length, 1);
        due.is("without arguments", made[0].getParameterCount(), 0);
        due.is("final", Modifier.isFinal(FencedStates.class.getModifiers()), true);
        for (Class<?> c : FencedStates.class.getDeclaredClasses()) {
            for (Method m : c.getDeclaredMethods()) {
                due.is(m + " bears a public name", names.contains(m.getName()), false);
            }
        }
    }

    private static void classes() {
        Class<?>[] inside = FencedStates.class.getDeclaredClasses();
        due.is("classes", inside.length + 1 <= 12, true);
        for (Class<?> c : inside) {
            int how = c.getModifiers();
            due.is(c + " is private and static", Modifier.isPrivate(how) && Modifier.isStatic(how), true);
            int fields = 0;
            for (Field f : c.getDeclaredFields()) {
                boolean fixed = Modifier.isStatic(f.getModifiers());
                fields += fixed ? 0 : 1;
                due.is(f + " is final if it is static", !fixed || Modifier.isFinal(f.getModifiers()), true);
            }
            due.is(c + " has few fields", fields <= 20, true);
            for (Method m : c.getDeclaredMethods()) {
                due.is(m + " has few parameters", m.getParameterCount() <= 7, true);
            }
        }
    }

    private static void source() throws Exception {
        Path path = Path.of(System.getenv().getOrDefault("FENCED_STATES_ROOT", "."),
            "src", "main", "java", "FencedStates.java");
        String text = Files.readString(path);
        String[] never = {"catch", "finally", "throw", "->", "::", "Exact(", "Float.", "Double.", "System.out",
            "synchronized", "assert", "package ", "instanceof", "NaN", "while (true)", "for (;;)", "protected "};
        for (String word : never) {
            due.is("the source has " + word, text.contains(word), false);
        }
        due.is("signs 1 to 127 alone", text.chars().allMatch(c -> c > 0 && c < 128), true);
        long imports = text.lines().filter(l -> l.startsWith("import ")).count();
        due.is("imports", imports, 1);
        due.is("Arrays", text.startsWith("import java.util.Arrays;\n"), true);
        int start = 0;
        int at = 0;
        for (String line : text.split("\n")) {
            at++;
            if (line.matches("(    ){1,2}[\\w\\[\\]]+( [\\w\\[\\]]+)* ?\\w*\\(.*\\) \\{")) {
                start = at;
            }
            if (start > 0 && line.matches("(    ){1,2}\\}")) {
                due.is("the method at line " + start + " is short", at - start <= 60, true);
                start = 0;
            }
        }
    }
}
