import java.lang.reflect.Method;
import java.lang.reflect.Modifier;
import java.nio.file.Files;
import java.nio.file.Path;
import java.util.regex.Matcher;
import java.util.regex.Pattern;
import java.util.stream.Stream;

/** That README.md tells the truth: its example, its calls, its tests. */
final class ReadmeTest {
    private static final Pattern HALL = Pattern.compile("String hall = \"([^\"]*)\";");
    private static final Pattern ROW = Pattern.compile("x\\.([a-z]+)\\(([-0-9, ]*)\\); +// (-?[0-9]+):");

    private ReadmeTest() {
    }

    public static void main(String[] args) throws Exception {
        Path root = Path.of(args.length > 0 ? args[0] : ".");
        String page = Files.readString(root.resolve("README.md"));
        example(page);
        calls(page);
        tests(page, root.resolve("src/test/java"));
        Checks.end();
    }

    /** Each row 'x.name(numbers); // answer: ..' on one object, in their order. */
    private static void example(String page) throws Exception {
        Matcher hall = HALL.matcher(page);
        Checks.holds("the example has a hall", hall.find());
        CalledNumbers x = new CalledNumbers();
        Checks.write(x, 0, hall.group(1));
        int rows = 0;
        Matcher row = ROW.matcher(page);
        while (row.find()) {
            rows++;
            long got = answer(x, row.group(1), row.group(2));
            Checks.due("row " + rows + " of the example, " + row.group(1), got, Long.parseLong(row.group(3)));
        }
        long withAnswer = page.lines().filter(line -> line.matches("x\\..*; +//.*")).count();
        Checks.due("rows of the example with an answer", rows, withAnswer);
        Checks.holds("the example has rows", rows > 10);
    }

    private static long answer(CalledNumbers x, String name, String numbers) throws Exception {
        String[] told = numbers.isBlank() ? new String[0] : numbers.split(", ");
        Object[] given = new Object[told.length];
        Class<?>[] types = new Class<?>[told.length];
        for (int k = 0; k < told.length; k++) {
            given[k] = Integer.parseInt(told[k]);
            types[k] = int.class;
        }
        return ((Number) CalledNumbers.class.getMethod(name, types).invoke(x, given)).longValue();
    }

    private static void calls(String page) {
        for (Method method : CalledNumbers.class.getDeclaredMethods()) {
            if (Modifier.isPublic(method.getModifiers())) {
                Checks.holds("README.md names " + method.getName(), page.contains("`" + method.getName() + "`"));
            }
        }
    }

    private static void tests(String page, Path folder) throws Exception {
        try (Stream<Path> files = Files.list(folder)) {
            for (Path file : files.toList()) {
                String name = file.getFileName().toString().replace(".java", "");
                if (name.endsWith("Test")) {
                    Checks.holds("README.md names " + name, page.contains("| " + name + " |"));
                }
            }
        }
    }
}
