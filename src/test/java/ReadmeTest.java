import java.io.IOException;
import java.lang.reflect.Method;
import java.nio.file.DirectoryStream;
import java.nio.file.Files;
import java.nio.file.Path;
import java.util.List;
import java.util.regex.Matcher;
import java.util.regex.Pattern;

/** That the class answers as README.md says, and that README.md names every test. Runs where README.md stands. */
public final class ReadmeTest {
    private static final Pattern NEW = Pattern.compile("StockingLine x = new StockingLine\\(\\);");
    private static final Pattern TEXT = Pattern.compile("for \\(char c : \"([^\"]*)\"\\.toCharArray\\(\\)\\) \\{");
    private static final Pattern CALL = Pattern.compile("x\\.(\\w+)\\(([^)]*)\\);\\s+// (-?\\w+): .*");
    private static final Pattern ROW = Pattern.compile("\\| `(\\w+)` \\| (-\\d+) \\| .*");
    private static StockingLine x = new StockingLine();
    private static String text = "";
    private static int calls = 0;
    private static int rows = 0;
    private static int wrong = 0;

    public static void main(String[] args) throws Exception {
        List<String> page = Files.readAllLines(Path.of("README.md"));
        boolean java = false;
        for (String line : page) {
            if (line.startsWith("```")) {
                java = line.equals("```java");
            } else if (java) {
                follow(line.trim());
            } else {
                compareRow(line);
            }
        }
        namesEveryTest(String.join("\n", page));
        expect(calls > 0, "README.md has no call with its answer");
        expect(rows == 4, "README.md tells " + rows + " refusals, not 4");
        System.out.println(wrong == 0 ? calls + " answers are as README.md says" : wrong + " things are not so");
        if (wrong != 0) {
            System.exit(1);
        }
    }

    private static void follow(String line) throws ReflectiveOperationException {
        Matcher typed = TEXT.matcher(line);
        Matcher call = CALL.matcher(line);
        if (NEW.matcher(line).matches()) {
            x = new StockingLine();
        } else if (typed.matches()) {
            text = typed.group(1);
        } else if (line.equals("x.letter(c);")) {
            type();
        } else if (call.matches()) {
            long got = answer(call.group(1), call.group(2));
            expect(got == number(call.group(3)), line + " (it answered " + got + ")");
            calls++;
        } else {
            expect(line.equals("}"), "not understood: " + line);
        }
    }

    private static void type() {
        for (char c : text.toCharArray()) {
            expect(x.letter(c) > 0, "a letter of " + text + " was refused");
        }
        text = "";
    }

    private static long answer(String name, String given) throws ReflectiveOperationException {
        String[] parts = given.isEmpty() ? new String[0] : given.split(", ");
        Object[] numbers = new Object[parts.length];
        Class<?>[] types = new Class<?>[parts.length];
        for (int i = 0; i < parts.length; i++) {
            numbers[i] = Integer.parseInt(parts[i]);
            types[i] = int.class;
        }
        Method method = StockingLine.class.getMethod(name, types);
        return ((Number) method.invoke(x, numbers)).longValue();
    }

    private static long number(String told) throws ReflectiveOperationException {
        boolean named = Character.isLetter(told.charAt(0));
        return named ? StockingLine.class.getField(told).getInt(null) : Long.parseLong(told);
    }

    private static void compareRow(String line) throws ReflectiveOperationException {
        Matcher row = ROW.matcher(line);
        if (row.matches()) {
            expect(number(row.group(1)) == Long.parseLong(row.group(2)), line);
            rows++;
        }
    }

    private static void namesEveryTest(String page) throws IOException {
        try (DirectoryStream<Path> tests = Files.newDirectoryStream(Path.of("src/test/java"), "*.java")) {
            for (Path test : tests) {
                expect(page.contains(test.getFileName().toString()), "README.md does not name " + test);
            }
        }
    }

    private static void expect(boolean so, String words) {
        if (!so) {
            wrong++;
            System.out.println("not so: " + words);
        }
    }
}
