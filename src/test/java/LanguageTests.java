import java.io.IOException;
import java.lang.management.ManagementFactory;
import java.nio.file.Files;
import java.nio.file.Path;
import java.util.List;
import java.util.regex.Pattern;

/** What of ../shared/LANGUAGE.md can be told from the source by its words, and what calls make in the room. */
public final class LanguageTests {
    private static final List<String> LEFT_OUT = List.of("->", "::", "\\blambda\\b", "\\bimport\\b", "\\bpackage\\b",
        "\\btry\\b", "\\bcatch\\b", "\\bfinally\\b", "\\bthrows?\\b", "\\bsynchronized\\b", "\\bassert\\b",
        "\\binstanceof\\b", "\\bvar\\b", "\\bSystem\\.(?!arraycopy)", "\\bFloat\\b", "\\bDouble\\b", "\\bCharacter\\b",
        "\\bObjects?\\b", "\\bRandom\\b", "\\bThread\\b", "Exact\\b", "\\bprotected\\b", "\\bString\\.format\\b",
        "\\bjava\\.", "\\bnative\\b", "\\bvolatile\\b", "\\b(toString|hashCode|equals|getClass)\\b");
    private static final int MOST_LINES = 60;

    public static void main(String[] args) throws IOException {
        Checks checks = new Checks("LanguageTests");
        String source = Files.readString(Path.of("src/main/java/LoomTunes.java"));
        String code = source.replaceAll("(?s)/\\*.*?\\*/", "").replaceAll("//.*", "");
        for (String word : LEFT_OUT) {
            checks.that("without " + word, !Pattern.compile(word).matcher(code).find());
        }
        checks.that("signs 1 to 127 alone", source.chars().allMatch(sign -> sign > 0 && sign < 128));
        checks.that("short methods", longestMethod(source.lines().toList()) <= MOST_LINES);
        for (int round = 0; round < 3; round++) {
            useAll(new LoomTunes());
        }
        LoomTunes loom = new LoomTunes();
        long before = madeBytes();
        useAll(loom);
        long made = madeBytes() - before;
        checks.that("no call makes objects: " + made + " bytes", made < 4096);
        checks.end();
    }

    /** The lines from a method's head, which ends with "{" and stands alone at its depth, to its end. */
    private static int longestMethod(List<String> lines) {
        int longest = 0;
        for (int line = 0; line < lines.size(); line++) {
            String head = lines.get(line);
            if (head.endsWith(") {") && Pattern.matches(" {4}( {4})?[a-zA-Z].*", head)) {
                String end = head.replaceAll("\\S.*", "}");
                int last = line;
                while (last < lines.size() && !lines.get(last).equals(end)) {
                    last++;
                }
                longest = Math.max(longest, last - line + 1);
            }
        }
        return longest;
    }

    private static long madeBytes() {
        return ((com.sun.management.ThreadMXBean) ManagementFactory.getThreadMXBean())
            .getThreadAllocatedBytes(Thread.currentThread().getId());
    }

    /** Some 500 calls, each kind of them among the answers that are no error. */
    private static int useAll(LoomTunes loom) {
        int sum = 0;
        for (int round = 0; round < 14; round++) {
            sum += loom.bring(round * 17 % 256) + loom.bring(round * 31 % 256) + loom.note(round % 8, round)
                + loom.colour(round % 8, round % 4) + loom.type('c') + loom.type('0' + round % 8) + loom.type(';')
                + loom.fault(0) + loom.play() + loom.turn() + loom.mirror() + loom.swap(0, 1) + loom.set(3, 1 + round)
                + loom.best(0) + loom.key(0) + loom.mean() + loom.alike(1) + loom.would(3) + loom.toneOf(round, 2)
                + loom.barOf(0, 2) + loom.cardOf(1, 9) + loom.threadOf(3, 5) + loom.count(4) + loom.like(2);
            sum += round % 5 == 4 ? loom.undo() + loom.tear(0) + loom.clearText() : 0;
        }
        return sum;
    }
}
