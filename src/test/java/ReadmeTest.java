import java.io.IOException;
import java.lang.reflect.Method;
import java.lang.reflect.Modifier;
import java.nio.file.Files;
import java.nio.file.Path;
import java.util.List;
import java.util.regex.Matcher;
import java.util.regex.Pattern;
import java.util.stream.Stream;

/** README.md: its examples answer as they say, and each call and each test of the project is named there. */
public final class ReadmeTest {
    private static final Pattern CALL = Pattern.compile("x\\.(\\w+)\\(([-0-9, ]*)\\); +// (-?\\d+)(: .*)?");
    private static final Pattern TYPED = Pattern.compile("for \\(char c : \"([^\"\\\\]*)\"\\.toCharArray\\(\\)\\) \\{ x\\.type\\(c\\); \\}");
    private static int wrong = 0;
    private static int answers = 0;

    private static void must(boolean so, String what) {
        if (!so) {
            wrong++;
            System.out.println("README.md: " + what);
        }
    }

    private static long answer(SoiledTests x, String name, String numbers) throws ReflectiveOperationException {
        String[] parts = numbers.isBlank() ? new String[0] : numbers.split(", ");
        Object[] args = new Object[parts.length];
        Class<?>[] types = new Class<?>[parts.length];
        for (int k = 0; k < parts.length; k++) {
            args[k] = Integer.parseInt(parts[k]);
            types[k] = int.class;
        }
        return ((Number) SoiledTests.class.getMethod(name, types).invoke(x, args)).longValue();
    }

    /** Every line must be of a form that is known here, so that none is passed over. */
    private static void example(String block) throws ReflectiveOperationException {
        SoiledTests x = null;
        for (String line : block.strip().split("\n")) {
            Matcher call = CALL.matcher(line);
            Matcher typed = TYPED.matcher(line);
            if (line.equals("SoiledTests x = new SoiledTests();")) {
                x = new SoiledTests();
            } else if (typed.matches()) {
                for (char c : typed.group(1).toCharArray()) {
                    x.type(c);
                }
            } else if (call.matches()) {
                long got = answer(x, call.group(1), call.group(2));
                answers++;
                must(got == Long.parseLong(call.group(3)), line + " answered " + got);
            } else {
                must(false, "this line of an example is not understood: " + line);
            }
        }
    }

    private static void namesEachCall(String readme) {
        for (Method m : SoiledTests.class.getDeclaredMethods()) {
            if (Modifier.isPublic(m.getModifiers())) {
                String parts = "\\w+" + ", \\w+".repeat(Math.max(0, m.getParameterCount() - 1));
                String row = "| `" + m.getName() + "\\(" + (m.getParameterCount() == 0 ? "" : parts) + "\\)` |";
                must(Pattern.compile(row.replace("|", "\\|")).matcher(readme).find(), "no row tells of " + m.getName());
            }
        }
        for (String name : List.of("NONE", "BAD", "NO", "FULL")) {
            must(readme.contains("`" + name + "`"), name + " is not named");
        }
    }

    private static void namesEachTest(String readme) throws IOException {
        try (Stream<Path> files = Files.list(Path.of("src/test/java"))) {
            for (Path file : files.toList()) {
                String name = file.getFileName().toString().replace(".java", "");
                must(readme.contains("- `" + name + "`: "), name + " is not told of");
            }
        }
        must(readme.contains("\n    .ci/run\n"), "how to run the tests is not told");
    }

    public static void main(String[] args) throws IOException, ReflectiveOperationException {
        String readme = Files.readString(Path.of("README.md"));
        Matcher block = Pattern.compile("(?s)```java\n(.*?)```").matcher(readme);
        while (block.find()) {
            example(block.group(1));
        }
        must(answers > 0, "there is no example");
        namesEachCall(readme);
        namesEachTest(readme);
        System.out.println(answers + " answers told in README.md, " + wrong + " faults");
        if (wrong != 0) {
            System.exit(1);
        }
    }
}
