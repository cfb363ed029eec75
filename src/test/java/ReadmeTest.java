import java.io.IOException;
import java.lang.reflect.Method;
import java.lang.reflect.Modifier;
import java.nio.file.Files;
import java.nio.file.Path;
import java.util.Set;
import java.util.TreeSet;
import java.util.regex.Matcher;
import java.util.regex.Pattern;

/** README.md tells the class as it is: its example is run, its tables are held against the face. */
public final class ReadmeTest {
    private static final Path README = Path.of("README.md");

    /** A row of the example: the call, its arguments, and what it answers. */
    private static final Pattern STEP = Pattern.compile("repo\\.(\\w+)\\(([^)]*)\\); +// (-?\\w+)(:.*)?");
    private static final Pattern ROW = Pattern.compile("(?m)^\\| `(\\w+)\\(([^)]*)\\)` \\|[^|]+\\|([^|]*)\\|$");

    private ReadmeTest() {
    }

    private static String[] parts(String list) {
        return list.isBlank() ? new String[0] : list.trim().split(", ");
    }

    private static int number(String argument) {
        return argument.equals("true") ? 1 : argument.equals("false") ? 0 : Integer.parseInt(argument);
    }

    private static void example(String readme) {
        StrataRepo repo = new StrataRepo();
        int begin = readme.indexOf("```java\n") + 8;
        String[] rows = readme.substring(begin, readme.indexOf("```", begin)).split("\n");
        Check.due(0, "the example's first row", rows[0], "StrataRepo repo = new StrataRepo();");
        for (int n = 1; n < rows.length; n++) {
            Matcher step = STEP.matcher(rows[n]);
            boolean isStep = step.matches();
            Check.due(0, "a call in '" + rows[n] + "'", isStep, true);
            if (isStep) {
                String[] words = parts(step.group(2));
                int[] numbers = new int[words.length];
                for (int at = 0; at < words.length; at++) {
                    numbers[at] = number(words[at]);
                }
                Check.due(0, "the example's " + rows[n], Faces.answer(repo, step.group(1), numbers), step.group(3));
            }
        }
    }

    private static String thrown(Method method) {
        StringBuilder text = new StringBuilder();
        for (Class<?> kind : method.getExceptionTypes()) {
            text.append(text.length() == 0 ? "" : ", ");
            text.append(kind == IndexOutOfBoundsException.class ? "Index"
                    : kind == IllegalArgumentException.class ? "Argument"
                    : kind == IllegalStateException.class ? "State" : kind.getName());
        }
        return text.toString();
    }

    private static void tables(String readme) {
        Set<String> told = new TreeSet<>();
        Matcher row = ROW.matcher(readme);
        while (row.find()) {
            String call = row.group(1) + " of " + parts(row.group(2)).length + ": " + row.group(3).trim();
            Check.due(0, "just one row of " + call, told.add(call), true);
        }
        Set<String> due = new TreeSet<>();
        for (Method method : StrataRepo.class.getDeclaredMethods()) {
            if (Modifier.isPublic(method.getModifiers())) {
                due.add(method.getName() + " of " + method.getParameterCount() + ": " + thrown(method));
            }
        }
        Check.due(0, "the calls in the tables", told.toString(), due.toString());
    }

    private static void tests(String readme) throws IOException {
        try (var files = Files.list(Path.of("src/test/java"))) {
            for (Path file : files.toList()) {
                String name = file.getFileName().toString().replace(".java", "");
                if (name.endsWith("Test")) {
                    Check.due(0, "the test " + name + " is told of", readme.contains("`" + name + "`"), true);
                }
            }
        }
    }

    public static void main(String[] arguments) throws IOException {
        String readme = Files.readString(README);
        example(readme);
        tables(readme);
        tests(readme);
        Check.due(0, "the 512 calls are told of", readme.contains("at most 512 calls"), true);
        Check.end();
    }
}
