import java.io.IOException;
import java.lang.reflect.Method;
import java.nio.file.Files;
import java.nio.file.Path;
import java.util.ArrayList;
import java.util.HashSet;
import java.util.LinkedHashMap;
import java.util.List;
import java.util.Map;
import java.util.Set;

/**
 * src/test/sentences.txt has each sentence of ../shared/DOC.md, in its order, and below each the tests that fail if it
 * is broken, or why it asks nothing. Here it is looked at that no sentence is missing and that those tests are there.
 */
public final class SentenceTests {
    private static final Path DOCUMENT = Path.of("../shared/DOC.md");
    private static final Path TABLE = Path.of("src/test/sentences.txt");
    private static final String SECTION = "== ";
    private static final String BELOW = "    ";
    private static final List<Class<?>> CLASSES = List.of(ThreadBoundaryTests.class, BringBoundaryTests.class,
        CardBoundaryTests.class, ThereIsBoundaryTests.class, WouldBeBoundaryTests.class, HistoryBoundaryTests.class,
        TextBoundaryTests.class);

    private final Checks checks = new Checks("SentenceTests");

    public static void main(String[] args) throws IOException {
        SentenceTests tests = new SentenceTests();
        Map<String, List<String>> table = tests.table(Files.readAllLines(TABLE));
        tests.sentencesAreThere(sentencesOf(Files.readAllLines(DOCUMENT)), new ArrayList<>(table.keySet()));
        tests.testsAreThere(table);
        tests.checks.end();
    }

    /** The sentences, each behind its section, with what stands below them. */
    private Map<String, List<String>> table(List<String> lines) {
        Map<String, List<String>> table = new LinkedHashMap<>();
        String section = "";
        String sentence = "";
        for (String line : lines) {
            if (line.startsWith(SECTION)) {
                section = line;
            } else if (line.startsWith(BELOW)) {
                table.get(sentence).addAll(line.startsWith(BELOW + "- ") ? List.of(line) : List.of(line.trim().split(" ")));
            } else if (!line.isEmpty()) {
                sentence = section + ": " + line;
                checks.that("once in the table: " + sentence, table.put(sentence, new ArrayList<>()) == null);
            }
        }
        return table;
    }

    private void sentencesAreThere(List<String> document, List<String> table) {
        for (String sentence : document) {
            checks.that("in the table: " + sentence, table.contains(sentence));
        }
        for (String sentence : table) {
            checks.that("in the document: " + sentence, document.contains(sentence));
        }
        checks.that("in the order of the document", document.equals(table));
    }

    private void testsAreThere(Map<String, List<String>> table) {
        Set<String> known = new HashSet<>(Set.of("FaceTests"));
        for (Class<?> tests : CLASSES) {
            for (Method method : tests.getDeclaredMethods()) {
                known.add(method.getName());
            }
        }
        table.forEach((sentence, tests) -> {
            checks.that("a test, or why there is none: " + sentence, !tests.isEmpty());
            for (String test : tests) {
                checks.that(test + " is there: " + sentence, test.startsWith(BELOW) || known.contains(test));
            }
        });
    }

    private static List<String> sentencesOf(List<String> document) {
        List<String> sentences = new ArrayList<>();
        String section = "";
        boolean isCode = false;
        for (String line : document) {
            String text = line.trim();
            if (text.startsWith("```")) {
                isCode = !isCode;
            } else if (text.startsWith("##")) {
                section = SECTION + text.replaceFirst("#+ ", "");
            } else if (!text.startsWith("#")) {
                for (String sentence : isCode ? List.of(text.replaceAll("[;{} ]+$", "")) : parts(text)) {
                    sentences.add(section + ": " + sentence);
                }
            }
        }
        sentences.removeIf(sentence -> sentence.endsWith(": "));
        return sentences;
    }

    /** What ends with a full stop or a semicolon that stands in no parentheses. */
    private static List<String> parts(String text) {
        List<String> parts = new ArrayList<>();
        int depth = 0;
        int begin = text.startsWith("- ") ? 2 : 0;
        for (int place = begin; place < text.length(); place++) {
            char sign = text.charAt(place);
            depth += sign == '(' ? 1 : sign == ')' ? -1 : 0;
            boolean isEnd = place + 1 == text.length() || text.charAt(place + 1) == ' ';
            if (depth == 0 && isEnd && (sign == '.' || sign == ';')) {
                parts.add(text.substring(begin, place).trim());
                begin = place + 1;
            }
        }
        parts.add(text.substring(begin).trim());
        return parts;
    }
}
