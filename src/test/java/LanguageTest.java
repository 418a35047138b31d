import java.lang.reflect.Constructor;
import java.lang.reflect.Field;
import java.lang.reflect.Method;
import java.lang.reflect.Modifier;
import java.nio.file.Files;
import java.nio.file.Path;
import java.util.ArrayList;
import java.util.List;
import java.util.Set;
import java.util.TreeSet;
import java.util.regex.Matcher;
import java.util.regex.Pattern;

/** The face of the document, and those rules of LANGUAGE.md that can be looked at here. */
final class LanguageTest {
    private static final String FACE = """
        int row(int r, int n); int lay(int r, int i, int v); int at(int r, int i); int tear(int r);
        int copy(int r, int i, int to, int j, int n); int mean(int r); int text(int t, int n);
        int put(int t, int i, int v); int fault(int t); int hall(int t); int player(int i, int what);
        int card(int i, int place); int mark(int i, int kind); int call(int number);
        int rub(int i, int place); int undo(int n); int keep(int k); int on(int k);
        int hears(int i, int number, int ahead, int call); int run(int r); int safe();
        int fewest(int i, int r); int most(int n, int r); int which(int i, int places);
        int kinds(int i, int r); int next(int i, int r); int duel(int i, int j, int n);
        int odds(int i, int n); int mid(int i, int n); int lots(int n, int seed); int asked();
        long upper(); long lower(); int count(int what); int finding(); int findings(int f);
        long digest();
        """;
    private static final List<String> FORBIDDEN = List.of(
        "\\bthrow\\b", "\\bthrows\\b", "\\btry\\b", "\\bcatch\\b", "\\bfinally\\b", "\\bsynchronized\\b",
        "\\bassert\\b", "->", "::", "Exact\\b", "@", "\\bpackage\\b", "\\bdefault ->", "\\bvar\\b",
        "\\bnull\\b", "\\bnative\\b", "\\btransient\\b", "\\bvolatile\\b", "\\?>", "\\.\\.\\.");
    private static final Set<String> LIBRARY = Set.of(
        "Arrays.fill", "System.arraycopy", "Integer.bitCount", "Math.min", "Math.max");

    public static void main(String[] args) throws Exception {
        Path source = Path.of(args.length > 0 ? args[0] : ".", "src/main/java/CalledNumbers.java");
        String code = withoutComments(Files.readString(source));
        face();
        classes();
        words(code);
        methodLengths(code);
        Checks.end();
    }

    private static void face() {
        Class<?> face = CalledNumbers.class;
        Checks.holds("public, final", Modifier.isPublic(face.getModifiers()) && Modifier.isFinal(face.getModifiers()));
        Set<String> due = new TreeSet<>();
        for (String signature : FACE.replace("\n", " ").split(";")) {
            if (!signature.isBlank()) {
                due.add(signature.trim().replaceAll("(int|long) [a-z]+([,)])", "$1$2"));
            }
        }
        Set<String> there = new TreeSet<>();
        Set<String> names = new TreeSet<>();
        for (Method method : face.getDeclaredMethods()) {
            if (Modifier.isPublic(method.getModifiers())) {
                List<String> types = new ArrayList<>();
                for (Class<?> type : method.getParameterTypes()) {
                    types.add(type.getName());
                }
                names.add(method.getName());
                there.add(method.getReturnType() + " " + method.getName() + "(" + String.join(", ", types) + ")");
            } else {
                Checks.holds(method + " is private", Modifier.isPrivate(method.getModifiers()));
            }
        }
        Checks.due("methods", there.size(), 37);
        Checks.holds("face: " + there, there.equals(due));
        Constructor<?>[] made = face.getDeclaredConstructors();
        Checks.holds("one constructor", made.length == 1 && made[0].getParameterCount() == 0
            && Modifier.isPublic(made[0].getModifiers()));
        Set<String> constants = new TreeSet<>();
        for (Field field : face.getDeclaredFields()) {
            if (Modifier.isPublic(field.getModifiers())) {
                constants.add(field.getName());
            } else {
                Checks.holds(field + " is private", Modifier.isPrivate(field.getModifiers()));
            }
        }
        Checks.holds("constants: " + constants,
            constants.equals(Set.of("BAD", "FULL", "FINDING", "STATE", "SPENT", "NONE")));
        namesOfOwn(names);
    }

    /** No method of ours bears the name of a public one. */
    private static void namesOfOwn(Set<String> names) {
        List<Method> own = new ArrayList<>();
        for (Class<?> one : all()) {
            own.addAll(List.of(one.getDeclaredMethods()));
        }
        for (Method method : own) {
            boolean ofFace = method.getDeclaringClass() == CalledNumbers.class && Modifier.isPublic(method.getModifiers());
            Checks.holds("name of " + method, ofFace || !names.contains(method.getName()));
            Checks.holds("parameters of " + method, method.getParameterCount() <= 7);
        }
    }

    private static List<Class<?>> all() {
        List<Class<?>> all = new ArrayList<>(List.of(CalledNumbers.class.getDeclaredClasses()));
        all.add(CalledNumbers.class);
        return all;
    }

    private static void classes() {
        Checks.holds("at most twelve classes", all().size() <= 12);
        for (Class<?> one : all()) {
            int fields = 0;
            for (Field field : one.getDeclaredFields()) {
                if (Modifier.isStatic(field.getModifiers())) {
                    Checks.holds(field + " is final", Modifier.isFinal(field.getModifiers()));
                } else {
                    fields++;
                }
            }
            Checks.holds(one + " has few fields", fields <= 20);
            Checks.holds(one + " is static", one == CalledNumbers.class || Modifier.isStatic(one.getModifiers()));
            Checks.due(one + " has classes inside", one == CalledNumbers.class ? 0 : one.getDeclaredClasses().length, 0);
        }
    }

    private static String withoutComments(String code) {
        return code.replaceAll("(?s)/\\*.*?\\*/", "").replaceAll("//[^\n]*", "");
    }

    private static void words(String code) {
        for (String word : FORBIDDEN) {
            Checks.holds("no " + word, !Pattern.compile(word).matcher(code).find());
        }
        Matcher imports = Pattern.compile("import ([^;]*);").matcher(code);
        while (imports.find()) {
            Checks.holds("import of " + imports.group(1), imports.group(1).equals("java.util.Arrays"));
        }
        Matcher calls = Pattern.compile("\\b([A-Z][A-Za-z]*\\.[A-Za-z_]+)").matcher(code);
        while (calls.find()) {
            Checks.holds("library: " + calls.group(1), LIBRARY.contains(calls.group(1)));
        }
        for (char sign : code.toCharArray()) {
            Checks.holds("a plain sign: " + (int) sign, sign < 127);
        }
    }

    /** A method begins with a line that ends in ') {' and is not an if, for, while or switch. */
    private static void methodLengths(String code) {
        String[] lines = code.split("\n");
        for (int from = 0; from < lines.length; from++) {
            String line = lines[from].trim();
            if (line.matches("(public |private |static |final )*[A-Za-z]+(\\[\\])* ?[a-zA-Z]*\\([^)]*\\) \\{")
                && !line.matches("(if|for|while|switch) .*")) {
                int open = 0;
                int at = from;
                do {
                    for (char sign : lines[at].toCharArray()) {
                        open += sign == '{' ? 1 : sign == '}' ? -1 : 0;
                    }
                    at++;
                } while (open > 0 && at < lines.length);
                Checks.holds(line + " is short", at - from <= 60);
            }
        }
    }
}
