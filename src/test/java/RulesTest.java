import java.io.IOException;
import java.lang.management.ManagementFactory;
import java.lang.reflect.Constructor;
import java.lang.reflect.Field;
import java.lang.reflect.Method;
import java.lang.reflect.Modifier;
import java.nio.file.Files;
import java.nio.file.Path;
import java.util.ArrayList;
import java.util.Collections;
import java.util.List;
import java.util.Set;
import java.util.TreeSet;

/** The face of the class, the rules of LANGUAGE.md that its text shows, and the room a run takes. */
public final class RulesTest {
    private static final String INDEX = "IndexOutOfBoundsException";
    private static final String ARGUMENT = "IllegalArgumentException";
    private static final String STATE = "IllegalStateException";
    private static final Path SOURCE = Path.of("src/main/java/StrataRepo.java");

    /** What is returned, the name, the kinds of the arguments: i an int, b a boolean; what is thrown. */
    private static final String[] FACE = {
        "int create(i) I S", "int delete(i) I S", "int insert(iii) I A S", "int erase(ii) I S",
        "int replace(iii) I A S", "int discard() S", "int commit(i) A S", "int branch(i) A S", "int go(i) I S",
        "int drop(i) I S", "int reset(i) I S", "int sweep() S", "int merge(i) I S", "int carry(i) I S",
        "int takeBack(i) I S", "int replay(i) I S", "int settle(ii) S I A", "int goOn() S", "int giveUp() S",
        "int pending()", "int conflicts()", "int unsettled()", "int left()", "int conflictFile(i) I",
        "int pieceSize(ii) I", "int pieceLine(iii) I", "int deskLines(i) I", "int deskLine(ii) I",
        "boolean isClean()", "int commits()", "boolean isThere(i)", "boolean isReached(i) I", "int parent(ib) I",
        "int wordOf(i) I", "int lines(ii) I", "int lineAt(iii) I", "int head()", "int commitOf(i)",
        "boolean isAncestor(ii) I", "int base(ii) I", "int ahead(ii) I", "int touched(ii) I", "int added(iii) I",
        "int pairOf(iiii) I", "int blame(iii) I", "int depthOf(i) I", "int seek(ii) I A", "int probe()",
        "int tell(b) S", "int culprit()", "int wouldMerge(i) I S", "int wouldConflict(i) I S",
        "double meanLines()", "long digest()",
    };

    private static String told(Method method) {
        StringBuilder text = new StringBuilder(method.getReturnType() + " " + method.getName() + "(");
        for (Class<?> kind : method.getParameterTypes()) {
            text.append(kind == int.class ? "i" : kind == boolean.class ? "b" : "?");
        }
        text.append(")");
        for (Class<?> kind : method.getExceptionTypes()) {
            String name = kind.getSimpleName();
            text.append(name.equals(INDEX) ? " I" : name.equals(ARGUMENT) ? " A" : name.equals(STATE) ? " S" : " ?");
        }
        return text.toString();
    }

    private static void face() {
        Set<String> due = new TreeSet<>(List.of(FACE));
        Set<String> got = new TreeSet<>();
        Set<String> names = new TreeSet<>();
        for (Method method : StrataRepo.class.getDeclaredMethods()) {
            if (Modifier.isPublic(method.getModifiers())) {
                got.add(told(method));
                names.add(method.getName());
            }
        }
        Check.due(0, "the face", got.toString(), due.toString());
        for (Method method : StrataRepo.class.getDeclaredMethods()) {
            int marks = method.getModifiers();
            boolean isFine = Modifier.isPublic(marks) || Modifier.isPrivate(marks) && !names.contains(method.getName());
            Check.due(0, "rule 1, " + method.getName(), isFine, true);
            Check.due(0, "rule 11, " + method.getName(), method.getParameterCount() <= 7, true);
        }
        for (Constructor<?> constructor : StrataRepo.class.getDeclaredConstructors()) {
            Check.due(0, "the constructor", constructor.getParameterCount() == 0
                    && Modifier.isPublic(constructor.getModifiers()), true);
        }
        int marks = StrataRepo.class.getModifiers();
        Check.due(0, "rule 1, the class", Modifier.isPublic(marks) && Modifier.isFinal(marks), true);
    }

    private static void members() {
        List<Class<?>> all = new ArrayList<>(List.of(StrataRepo.class.getDeclaredClasses()));
        Check.due(0, "rule 11, classes", all.size() <= 12, true);
        for (Class<?> inner : all) {
            int marks = inner.getModifiers();
            Check.due(0, "rule 1, " + inner.getName(), Modifier.isStatic(marks)
                    && !Modifier.isPublic(marks) && !Modifier.isProtected(marks), true);
        }
        all.add(StrataRepo.class);
        for (Class<?> one : all) {
            int fields = 0;
            for (Field field : one.getDeclaredFields()) {
                int marks = field.getModifiers();
                if (Modifier.isStatic(marks)) {
                    Check.due(0, "rule 5, " + field, Modifier.isFinal(marks), true);
                } else {
                    fields++;
                }
                Check.due(0, "rule 1, " + field, Modifier.isPrivate(marks), true);
            }
            Check.due(0, "rule 11, fields of " + one.getName(), fields <= 20, true);
        }
    }

    /** The text without comments and without what stands between quotes. */
    private static String bare(String text) {
        return text.replaceAll("(?s)/\\*.*?\\*/", " ").replaceAll("//[^\n]*", " ").replaceAll("\"[^\"\n]*\"", "\"\"");
    }

    private static void text() throws IOException {
        String whole = Files.readString(SOURCE);
        String bare = bare(whole);
        String[] never = {
            "->", "::", "\\bcatch\\b", "\\btry\\b", "\\bfinally\\b", "\\bassert\\b", "\\bsynchronized\\b",
            "\\bpackage\\b", "\\binstanceof\\b", "\\bequals\\b", "\\bhashCode\\b", "\\btoString\\b", "Exact\\(",
            "\"\" *\\+", "\\+ *\"\"", "\\bvar\\b", "\\bprotected\\b", "\\bvolatile\\b", "\\bnative\\b", "\\bstatic *\\{",
            "System\\.(?!arraycopy)", "import (?!java\\.util\\.Arrays;)", "\\bnew (?!IllegalArgumentException\\(\"\"\\)"
            + "|IllegalStateException\\(\"\"\\)|IndexOutOfBoundsException\\(\"\"\\)|int\\[[A-Z_ *+()1]+\\]"
            + "|(Tree|History|Match|Merging)\\(\\)|Commit[\\[(])",
        };
        for (String pattern : never) {
            Check.due(0, "'" + pattern + "' in the text", java.util.regex.Pattern.compile(pattern).matcher(bare).find(),
                    false);
        }
        for (int n = 0; n < whole.length(); n++) {
            if (whole.charAt(n) > 126) {
                Check.say(0, "sign " + (int) whole.charAt(n) + " in the text");
            }
        }
        lengths(whole);
    }

    /** Rule 11: a method begins with a line that ends in {, and ends with a } as far in. */
    private static void lengths(String whole) {
        String[] rows = whole.split("\n");
        for (int n = 0; n < rows.length; n++) {
            String row = rows[n];
            int depth = row.length() - row.stripLeading().length();
            if ((depth == 4 || depth == 8) && row.endsWith("{") && row.contains("(") && !row.contains("class ")) {
                String end = String.join("", Collections.nCopies(depth, " ")) + "}";
                int last = n;
                while (last < rows.length && !rows[last].equals(end)) {
                    last++;
                }
                Check.due(0, "rule 11, length of " + row.trim(), last - n < 60, true);
            }
        }
    }

    /** Long files on both sides of a fork, in all eight names. */
    private static StrataRepo wide() {
        StrataRepo repo = new StrataRepo();
        for (int file = 0; file < 8; file++) {
            Make.file(repo, file, Make.row(100, 38));
        }
        repo.commit(1);
        repo.branch(1);
        for (int file = 0; file < 8; file++) {
            repo.replace(file, 20, 500);
        }
        repo.commit(2);
        repo.go(1);
        for (int file = 0; file < 8; file++) {
            repo.replace(file, 20, 600);
        }
        repo.commit(3);
        return repo;
    }

    private static void room() {
        com.sun.management.ThreadMXBean bean = (com.sun.management.ThreadMXBean) ManagementFactory.getThreadMXBean();
        long self = Thread.currentThread().getId();
        long taken = 0;
        for (int object = 0; object < 25; object++) {
            StrataRepo repo = wide();
            long before = bean.getThreadAllocatedBytes(self);
            for (int n = 0; n < 20; n++) {
                repo.wouldMerge(0);
                repo.replay(0);
                repo.digest();
                repo.giveUp();
                repo.blame(2, n % 8, 37);
                repo.seek(0, 2);
                repo.probe();
                repo.discard();
            }
            taken += bean.getThreadAllocatedBytes(self) - before;
        }
        Check.due(0, "room of 4000 calls under 100,000 bytes: " + taken, taken < 100_000, true);
        long before = bean.getThreadAllocatedBytes(self);
        Make.chain(60);
        taken = bean.getThreadAllocatedBytes(self) - before;
        Check.due(0, "room of 60 commits under 300,000 bytes: " + taken, taken < 300_000, true);
    }

    public static void main(String[] arguments) throws IOException {
        face();
        members();
        text();
        room();
        Check.end();
    }
}
