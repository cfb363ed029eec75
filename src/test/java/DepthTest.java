import java.io.PrintWriter;
import java.io.StringWriter;
import java.nio.file.Path;
import java.util.ArrayList;
import java.util.List;
import java.util.Map;
import java.util.Set;
import java.util.TreeMap;
import java.util.TreeSet;
import java.util.regex.Matcher;
import java.util.regex.Pattern;
import java.util.spi.ToolProvider;

/** LANGUAGE.md, rules 8 and 11: no method comes back to itself, and calls go at most eight deep. */
public final class DepthTest {
    private static final int MOST_DEEP = 8;
    private static final Pattern CLASS = Pattern.compile("^[\\w ]*class (StrataRepo[\\w$]*) .*");
    private static final Pattern METHOD = Pattern.compile("^  [^ ].*?([\\w$]+)\\([^)]*\\)[^;]*;$");
    private static final Pattern CALL = Pattern.compile(".*// Method (?:(StrataRepo[\\w$]*)\\.)?(\"<init>\"|\\w+):.*");

    /** For each method those that it calls, all told as Class.method. */
    private final Map<String, Set<String>> calls = new TreeMap<>();

    private DepthTest() {
    }

    private static String disassembled() throws Exception {
        List<String> arguments = new ArrayList<>(List.of("-c", "-p", "-cp",
                Path.of(StrataRepo.class.getProtectionDomain().getCodeSource().getLocation().toURI()).toString()));
        arguments.add(StrataRepo.class.getName());
        for (Class<?> inner : StrataRepo.class.getDeclaredClasses()) {
            arguments.add(inner.getName());
        }
        StringWriter text = new StringWriter();
        ToolProvider javap = ToolProvider.findFirst("javap").orElseThrow();
        int code = javap.run(new PrintWriter(text), new PrintWriter(System.out), arguments.toArray(new String[0]));
        Check.due(0, "javap's exit code", code, 0);
        return text.toString();
    }

    private void read(String text) {
        String owner = "";
        String method = "";
        for (String row : text.split("\n")) {
            Matcher opened = CLASS.matcher(row);
            Matcher begun = METHOD.matcher(row);
            Matcher called = CALL.matcher(row);
            if (opened.matches()) {
                owner = opened.group(1);
            } else if (begun.matches()) {
                boolean isConstructor = owner.endsWith(begun.group(1)) && row.contains(owner + "(");
                method = owner + "." + (isConstructor ? "\"<init>\"" : begun.group(1));
                calls.computeIfAbsent(method, name -> new TreeSet<>());
            } else if (called.matches()) {
                calls.get(method).add((called.group(1) == null ? owner : called.group(1)) + "." + called.group(2));
            }
        }
    }

    /** The longest row of calls that begins with a method; the row so far is looked at for the method itself. */
    private List<String> deepest(String method, List<String> above) {
        List<String> longest = List.of();
        if (above.contains(method)) {
            Check.say(0, "rule 8, " + method + " comes back to itself: " + above);
            return longest;
        }
        List<String> here = new ArrayList<>(above);
        here.add(method);
        for (String next : calls.getOrDefault(method, Set.of())) {
            List<String> row = calls.containsKey(next) ? deepest(next, here) : List.of();
            longest = row.size() > longest.size() ? row : longest;
        }
        List<String> row = new ArrayList<>(List.of(method));
        row.addAll(longest);
        return row;
    }

    public static void main(String[] arguments) throws Exception {
        DepthTest test = new DepthTest();
        test.read(disassembled());
        int found = 0;
        for (String method : test.calls.keySet()) {
            List<String> row = test.deepest(method, List.of());
            Check.due(0, "rule 11, at most eight deep: " + row, row.size() <= MOST_DEEP, true);
            found = Math.max(found, row.size());
        }
        Check.due(0, "calls that go deeper than one were found", found > 2 && test.calls.size() > 100, true);
        System.out.println("the deepest row has " + found + " calls");
        Check.end();
    }
}
