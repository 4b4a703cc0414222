import java.io.IOException;
import java.lang.management.ManagementFactory;
import java.nio.file.Files;
import java.nio.file.Path;
import java.util.List;
import java.util.function.ToIntFunction;
import java.util.regex.Pattern;

/** What of ../shared/LANGUAGE.md can be told from the source by its words, and what calls make in the room. */
public final class LanguageTests {
    private static final List<String> LEFT_OUT = List.of(
        "(?m)^(?!\\s*(case\\b|default\\b)).*->", "::", "(?m)^\\s*package\\b",
        "\\bimport\\s+(?!java\\.util\\.(ArrayList|List|Arrays|Iterator|NoSuchElementException);)",
        "(?<!import )\\bjava\\.", "\\bfinally\\b", "\\btry\\s*\\(", "\\bsynchronized\\b", "\\bassert\\b",
        "\\bSystem\\.(?!arraycopy)", "\\b(Float|Double|Character|Object|Objects|Random|Thread)\\b",
        "Exact\\b", "\\bprotected\\b", "\\bString\\.", "\\bgetClass\\b", "\\bgetMessage\\b",
        "\\bString toString\\(", "\\bint hashCode\\(", "\\bboolean equals\\(", "\\bextends \\w*(Exception|Error)\\b",
        "\\bcatch\\s*\\([^)]*\\b(Throwable|Exception|ArrayIndexOutOfBoundsException|NullPointerException"
            + "|ClassCastException|NegativeArraySizeException|ArrayStoreException)\\b");
    /** "Some sixty." */
    private static final int MOST_LINES = 75;
    private static final int MOST_CALLS = 512;
    /** Of 600,000 objects and 7.3 million fields, in bytes of this machine. */
    private static final long ROOM = 600_000 * 16L + 7_300_000 * 4L;

    private final Checks checks = new Checks("LanguageTests");

    public static void main(String[] args) throws IOException {
        LanguageTests tests = new LanguageTests();
        tests.words(Files.readString(Path.of("src/main/java/LoomTunes.java")));
        tests.roomOfAllCalls();
        tests.checks.end();
    }

    private void words(String source) {
        String code = source.replaceAll("(?s)/\\*.*?\\*/", "").replaceAll("//.*", "");
        for (String word : LEFT_OUT) {
            checks.that("without " + word, !Pattern.compile(word).matcher(code).find());
        }
        checks.that("signs 1 to 127 alone", code.chars().allMatch(sign -> sign > 0 && sign < 128));
        checks.that("short methods", longestMethod(source.lines().toList()) <= MOST_LINES);
    }

    /** The lines from a method's head, which ends with "{" and stands alone at its depth, to its end. */
    private static int longestMethod(List<String> lines) {
        int longest = 0;
        for (int line = 0; line < lines.size(); line++) {
            String head = lines.get(line);
            if (head.endsWith(") {") && Pattern.matches(" {4}( {4})?[a-zA-Z].*", head)) {
                String end = head.replaceAll("\\S.*", "}");
                int last = line;
                while (last < lines.size() && !lines.get(last).equals(end)) {
                    last++;
                }
                longest = Math.max(longest, last - line + 1);
            }
        }
        return longest;
    }

    /** The room is one for all calls of a run, so the dearest call has to go into it as often as there are calls. */
    private void roomOfAllCalls() {
        room("best(0)", Looms.counted(23), loom -> loom.best(0));
        room("play()", Looms.FULL.make(), LoomTunes::play);
        room("fault(0)", Looms.FULL.make(), loom -> loom.fault(0));
        room("count(4)", Looms.FULL.make(), loom -> loom.count(4));
        room("key(0)", Looms.FULL.make(), loom -> loom.key(0));
        room("mean()", Looms.FULL.make(), LoomTunes::mean);
        room("alike(23)", Looms.FULL.make(), loom -> loom.alike(23));
        room("toneOf(40, 2)", Looms.FULL.make(), loom -> loom.toneOf(40, 2));
        room("barOf(0, 3)", Looms.FULL.make(), loom -> loom.barOf(0, 3));
        room("like(0)", Looms.rows(24, 24), loom -> loom.like(0));
        room("turn()", Looms.FULL.make(), LoomTunes::turn);
        room("mirror()", Looms.FULL.make(), LoomTunes::mirror);
        room("bring(255)", Looms.ONE_CARD.make(), loom -> loom.bring(255));
        room("type(116)", new LoomTunes(), loom -> loom.type('t'));
        room("undo()", Looms.FULL.make(), loom -> loom.note(0, 1) + loom.undo());
    }

    private void room(String call, LoomTunes loom, ToIntFunction<LoomTunes> made) {
        long before = madeBytes();
        for (int time = 0; time < MOST_CALLS; time++) {
            made.applyAsInt(loom);
        }
        long bytes = madeBytes() - before;
        checks.that(MOST_CALLS + " times " + call + " stay in the room, with " + bytes + " bytes", bytes < ROOM);
    }

    private static long madeBytes() {
        return ((com.sun.management.ThreadMXBean) ManagementFactory.getThreadMXBean())
            .getThreadAllocatedBytes(Thread.currentThread().getId());
    }
}
