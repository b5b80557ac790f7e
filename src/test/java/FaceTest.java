import java.io.IOException;
import java.lang.reflect.Constructor;
import java.lang.reflect.Field;
import java.lang.reflect.Method;
import java.lang.reflect.Modifier;
import java.nio.file.Files;
import java.nio.file.Path;
import java.util.List;
import java.util.TreeSet;
import java.util.regex.Pattern;

/** The public face of the class, and the rules of the language that can be seen from its text. */
final class FaceTest {
    private static final String[] METHODS = {
        "int set(int,int)", "int block(int)", "int setUp(int,int,int,int)", "int move(int,int)", "int play()",
        "int readPad()", "int now(int)", "int distance(int,int,int,int)", "int number(int,int,int,int)",
        "int folded(int,int,int,int)", "int of(int,int)", "int line(int)", "int all(int)", "int withDistance(int)",
        "int rule(int)", "int put(long)", "int wipe()", "int fault()", "int undo()", "int save(int)",
        "int restore(int)"};
    private static final String[] CONSTANTS = {
        "NO_SUCH", "BAD_VALUE", "BAD_TEXT", "TOO_MANY", "NOT_POSSIBLE", "NONE", "FOX", "HUNT", "PASS"};
    private static final String[] NEVER = {
        "\\bthrow\\b", "\\btry\\b", "\\bcatch\\b", "\\bsynchronized\\b", "\\bassert\\b", "->", "::", "Exact\\b",
        "\\bstatic \\{", "\\bpackage\\b", "\\bprotected\\b", "\\bSystem\\.(?!arraycopy)", "\\bThread\\b",
        "\\bRandom\\b", "\\bequals\\(", "\\bhashCode\\(", "\" \\+|\\+ \"", "\\bwhile \\(true\\)", "for \\(;;\\)"};

    private final Checks checks = new Checks();

    public static void main(String[] args) throws IOException {
        FaceTest test = new FaceTest();
        test.face();
        test.inside();
        test.text();
        test.checks.end("FaceTest");
    }

    private void same(String what, TreeSet<String> got, String[] want) {
        TreeSet<String> due = new TreeSet<>(List.of(want));
        checks.holds(what + ": " + got + " for " + due, got.equals(due));
    }

    private void face() {
        TreeSet<String> methods = new TreeSet<>();
        for (Method m : BoardEnds.class.getDeclaredMethods()) {
            if (!Modifier.isPrivate(m.getModifiers()) && !m.isSynthetic()) {
                methods.add(told(m));
                checks.holds(m + " is public and no more", m.getModifiers() == Modifier.PUBLIC);
            }
        }
        same("methods", methods, METHODS);
        TreeSet<String> fields = new TreeSet<>();
        for (Field f : BoardEnds.class.getDeclaredFields()) {
            if (!Modifier.isPrivate(f.getModifiers())) {
                fields.add(f.getName());
                int want = Modifier.PUBLIC | Modifier.STATIC | Modifier.FINAL;
                checks.holds(f + " is a constant", f.getModifiers() == want && f.getType() == int.class);
            }
        }
        same("constants", fields, CONSTANTS);
        Constructor<?>[] constructors = BoardEnds.class.getDeclaredConstructors();
        checks.holds("one constructor", constructors.length == 1 && constructors[0].getParameterCount() == 0
                && constructors[0].getModifiers() == Modifier.PUBLIC);
        checks.holds("public and final", BoardEnds.class.getModifiers() == (Modifier.PUBLIC | Modifier.FINAL));
    }

    private static String told(Method m) {
        StringBuilder types = new StringBuilder();
        for (Class<?> type : m.getParameterTypes()) {
            types.append(types.length() == 0 ? "" : ",").append(type.getName());
        }
        return m.getReturnType().getName() + " " + m.getName() + "(" + types + ")";
    }

    private void inside() {
        TreeSet<String> open = new TreeSet<>();
        for (String method : METHODS) {
            open.add(method.substring(4, method.indexOf('(')));
        }
        Class<?>[] classes = BoardEnds.class.getDeclaredClasses();
        checks.holds("at most twelve classes", classes.length + 1 <= 12);
        for (Class<?> c : classes) {
            checks.holds(c + " is static", Modifier.isStatic(c.getModifiers()));
            checks.holds(c + " is not open", !Modifier.isPublic(c.getModifiers()));
            int fields = 0;
            for (Field f : c.getDeclaredFields()) {
                boolean fixed = Modifier.isStatic(f.getModifiers());
                checks.holds(f + " is final if it is static", !fixed || Modifier.isFinal(f.getModifiers()));
                fields += fixed ? 0 : 1;
            }
            checks.holds(c + " has at most twenty fields", fields <= 20);
            for (Method m : c.getDeclaredMethods()) {
                checks.holds(m + " has no name of the face", !open.contains(m.getName()));
                checks.holds(m + " has at most seven parameters", m.getParameterCount() <= 7);
            }
        }
    }

    private void text() throws IOException {
        List<String> lines = Files.readAllLines(Path.of("src/main/java/BoardEnds.java"));
        for (int i = 0; i < lines.size(); i++) {
            String line = lines.get(i);
            String code = line.replaceAll("^\\s*(/\\*\\*|\\*|//).*", "");
            for (String never : NEVER) {
                checks.holds("line " + (i + 1) + " has no " + never, !Pattern.compile(never).matcher(code).find());
            }
            checks.holds("import", !code.startsWith("import") || code.equals("import java.util.Arrays;"));
            checks.holds("line " + (i + 1) + " is plain", line.chars().allMatch(c -> c >= 32 && c < 127));
            if (code.matches("\\s+[a-zA-Z].*\\) \\{")) {
                String close = code.replaceAll("\\S.*", "") + "}";
                int length = lines.subList(i, lines.size()).indexOf(close) + 1;
                checks.holds("line " + (i + 1) + " begins no more than sixty lines", length > 0 && length <= 60);
                if (!code.matches("\\s+(if|for|while|switch) .*")) {
                    indexes("line " + (i + 1), String.join("\n", lines.subList(i, i + length)));
                }
            }
        }
    }

    /** A method looks at an index itself, if it is a length that is kept, or what another method answers. */
    private void indexes(String where, String method) {
        checks.holds(where + ": no index is another method's answer", !method.matches("(?s).*\\w\\[[^\\]]*\\w\\(.*"));
        if (method.contains("[length]")) {
            checks.holds(where + ": length is not below 0", method.matches("(?s).*length >=? 0.*"));
            checks.holds(where + ": length is not above ROOM", method.matches("(?s).*length (<|<=|>=) ROOM.*"));
        }
        if (method.contains("i < length ") || method.contains("i < length;")) {
            checks.holds(where + ": i is not above ROOM", method.contains("i < ROOM"));
        }
    }
}
