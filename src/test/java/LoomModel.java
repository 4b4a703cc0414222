import java.util.ArrayDeque;
import java.util.ArrayList;
import java.util.Collections;
import java.util.Deque;
import java.util.HashMap;
import java.util.List;
import java.util.Map;
import java.util.TreeSet;
import java.util.regex.Matcher;
import java.util.regex.Pattern;

/**
 * The document once more, written another way than the program, with lists, maps and regular expressions, so that
 * both are unlikely to be wrong alike.
 */
final class LoomModel {
    private static final int INVALID = -1000001;
    private static final int IMPOSSIBLE = -1000002;
    private static final int LIMIT = -1000003;
    private static final int NONE = -1000004;
    private static final Pattern ORDER = Pattern.compile(
        "(c(?=[0-7])0?1?2?3?4?5?6?7?|[nk][0-9][0-9]?,[0-9][0-9]?|x[0-9][0-9]?|t);");
    private static final int[][] RANGES = {{2, 8}, {1, 8}, {0, 28}, {1, 24}};

    record Card(int holes, boolean stamp) {
        Card mirrored() {
            return new Card(Integer.reverse(holes) >>> 24, stamp);
        }

        boolean has(int hole) {
            return Integer.toBinaryString(256 + holes).charAt(8 - hole) == '1';
        }
    }

    record Tone(int row, int thread, int length) { }

    record Fault(int place, int reason, int cause) { }

    record State(List<Integer> notes, List<Integer> colours, List<Card> cards, List<Integer> settings,
                 int refusals, List<Integer> refusedInARow) { }

    private List<Integer> notes = new ArrayList<>(List.of(12, 14, 16, 18, 20, 22, 24, 26));
    private List<Integer> colours = new ArrayList<>(List.of(0, 1, 2, 3, 0, 1, 2, 3));
    private List<Card> cards = new ArrayList<>();
    private List<Integer> settings = new ArrayList<>(List.of(4, 5, 3, 6));
    private int refusals = 0;
    /** The remembered card once for each time that it was refused. */
    private List<Integer> refusedInARow = new ArrayList<>();
    private final Deque<State> history = new ArrayDeque<>();
    private String text = "";

    private State state() {
        return new State(List.copyOf(notes), List.copyOf(colours), List.copyOf(cards), List.copyOf(settings),
            refusals, List.copyOf(refusedInARow));
    }

    private void become(State state) {
        notes = new ArrayList<>(state.notes);
        colours = new ArrayList<>(state.colours);
        cards = new ArrayList<>(state.cards);
        settings = new ArrayList<>(state.settings);
        refusals = state.refusals;
        refusedInARow = new ArrayList<>(state.refusedInARow);
    }

    private int changed(State before, int answer) {
        if (answer >= 0) {
            history.push(before);
            if (history.size() > 4) {
                history.removeLast();
            }
        }
        return answer;
    }

    private static boolean outside(int value, int least, int most) {
        return value < least || value > most;
    }

    int note(int thread, int note) {
        return changed(state(), doNote(thread, note));
    }

    private int doNote(int thread, int note) {
        return outside(thread, 0, 7) || outside(note, 0, 47) ? INVALID : notes.set(thread, note);
    }

    int colour(int thread, int colour) {
        return changed(state(), doColour(thread, colour));
    }

    private int doColour(int thread, int colour) {
        return outside(thread, 0, 7) || outside(colour, 0, 3) ? INVALID : colours.set(thread, colour);
    }

    int bring(int holes) {
        return changed(state(), doBring(holes));
    }

    private int doBring(int holes) {
        int answer = would(holes);
        if (answer == 0 || answer > 3) {
            cards.add(new Card(holes, answer > 3));
            refusedInARow.clear();
        } else if (answer > 0) {
            refusals++;
            if (!refusedInARow.contains(holes)) {
                refusedInARow.clear();
            }
            refusedInARow.add(holes);
        }
        return answer;
    }

    int tear(int card) {
        return changed(state(), doTear(card));
    }

    private int doTear(int card) {
        return outside(card, 0, cards.size() - 1) ? INVALID : cards.remove(card).holes;
    }

    int swap(int one, int other) {
        State before = state();
        if (outside(one, 0, cards.size() - 1) || outside(other, 0, cards.size() - 1) || one == other) {
            return INVALID;
        }
        Collections.swap(cards, one, other);
        return changed(before, cards.get(one).holes);
    }

    int turn() {
        return changed(state(), doTurn());
    }

    private int doTurn() {
        if (cards.size() < 2) {
            return IMPOSSIBLE;
        }
        Collections.reverse(cards);
        return cards.size();
    }

    int mirror() {
        State before = state();
        if (cards.isEmpty()) {
            return IMPOSSIBLE;
        }
        List<Card> olds = new ArrayList<>(cards);
        cards.replaceAll(Card::mirrored);
        int others = 0;
        for (int row = 0; row < olds.size(); row++) {
            others += olds.get(row).equals(cards.get(row)) ? 0 : 1;
        }
        return changed(before, others);
    }

    int set(int what, int value) {
        if (outside(what, 0, 3) || outside(value, RANGES[what][0], RANGES[what][1])) {
            return INVALID;
        }
        State before = state();
        return changed(before, settings.set(what, value));
    }

    private List<Integer> threadsIn(int holes) {
        List<Integer> threads = new ArrayList<>();
        for (int thread = 0; thread < 8; thread++) {
            if (new Card(holes, false).has(thread)) {
                threads.add(thread);
            }
        }
        return threads;
    }

    private List<Integer> notesIn(int holes) {
        List<Integer> sounding = new ArrayList<>();
        threadsIn(holes).forEach(thread -> sounding.add(notes.get(thread)));
        Collections.sort(sounding);
        return sounding;
    }

    private int clashes(int holes) {
        List<Integer> sounding = notesIn(holes);
        int clashes = 0;
        for (int low = 0; low < sounding.size(); low++) {
            for (int high = low + 1; high < sounding.size(); high++) {
                int step = (sounding.get(high) - sounding.get(low)) % 12;
                clashes += List.of(1, 2, 6, 10, 11).contains(step) ? 1 : 0;
            }
        }
        return clashes;
    }

    private int noteSet(int holes) {
        return notesIn(holes).stream().map(note -> note % 12).distinct().mapToInt(note -> 1 << note).sum();
    }

    private int reason(int holes) {
        if (threadsIn(holes).size() > settings.get(1)) {
            return 1;
        }
        if (clashes(holes) > settings.get(2)) {
            return 2;
        }
        return !cards.isEmpty() && cards.get(cards.size() - 1).holes == holes ? 3 : 0;
    }

    int would(int holes) {
        if (outside(holes, 0, 255)) {
            return INVALID;
        }
        if (cards.size() == 24) {
            return LIMIT;
        }
        int reason = reason(holes);
        boolean third = refusedInARow.equals(List.of(holes, holes));
        return reason > 0 && third ? reason + 10 : reason;
    }

    private List<Tone> tones() {
        List<Tone> tones = new ArrayList<>();
        for (int row = 0; row < cards.size(); row++) {
            for (int thread = 0; thread < 8; thread++) {
                if (cards.get(row).has(thread) && (row == 0 || !cards.get(row - 1).has(thread))) {
                    int end = row;
                    while (end < cards.size() && cards.get(end).has(thread)) {
                        end++;
                    }
                    tones.add(new Tone(row, thread, end - row));
                }
            }
        }
        return tones;
    }

    /** The lengths of the floats of a thread, from a text of its rows. */
    private List<Integer> floats(int thread) {
        StringBuilder rows = new StringBuilder();
        cards.forEach(card -> rows.append(card.has(thread) ? '#' : '.'));
        List<Integer> lengths = new ArrayList<>();
        Matcher stays = Pattern.compile("#+|\\.+").matcher(rows);
        while (stays.find()) {
            lengths.add(stays.end() - stays.start());
        }
        return lengths;
    }

    private int longFloats(int thread) {
        return (int) floats(thread).stream().filter(length -> length > settings.get(3)).count();
    }

    int cardOf(int card, int what) {
        if (outside(card, 0, cards.size() - 1) || outside(what, 0, 9)) {
            return INVALID;
        }
        int holes = cards.get(card).holes;
        List<Integer> sounding = notesIn(holes);
        if (sounding.isEmpty() && (what == 5 || what == 6)) {
            return NONE;
        }
        return switch (what) {
            case 0 -> holes;
            case 1 -> sounding.size();
            case 2 -> cards.get(card).stamp ? 1 : 0;
            case 3 -> clashes(holes);
            case 4 -> noteSet(holes);
            case 5 -> Collections.max(sounding);
            case 6 -> Collections.min(sounding);
            case 7 -> (int) tones().stream().filter(tone -> tone.row == card).count();
            case 8 -> card / settings.get(0);
            default -> threadsIn(holes).stream().mapToInt(
                thread -> List.of(1000, 100, 10, 1).get(colours.get(thread))).sum();
        };
    }

    int threadOf(int thread, int what) {
        if (outside(thread, 0, 7) || outside(what, 0, 5)) {
            return INVALID;
        }
        return switch (what) {
            case 0 -> notes.get(thread);
            case 1 -> colours.get(thread);
            case 2 -> (int) tones().stream().filter(tone -> tone.thread == thread).count();
            case 3 -> (int) cards.stream().filter(card -> card.has(thread)).count();
            case 4 -> floats(thread).stream().mapToInt(length -> length).max().orElse(0);
            default -> longFloats(thread);
        };
    }

    int toneOf(int number, int what) {
        if (number < 0 || outside(what, 0, 4)) {
            return INVALID;
        }
        if (number >= tones().size()) {
            return NONE;
        }
        Tone tone = tones().get(number);
        return List.of(tone.thread, tone.row, tone.length, notes.get(tone.thread), tone.row / settings.get(0)).get(what);
    }

    int barOf(int bar, int what) {
        if (outside(bar, 0, 11) || outside(what, 0, 3)) {
            return INVALID;
        }
        int from = Math.min(cards.size(), bar * settings.get(0));
        int to = Math.min(cards.size(), (bar + 1) * settings.get(0));
        List<Card> rows = cards.subList(from, to);
        return switch (what) {
            case 0 -> rows.size();
            case 1 -> (int) tones().stream().filter(tone -> tone.row >= from && tone.row < to).count();
            case 2 -> rows.stream().mapToInt(card -> clashes(card.holes)).sum();
            default -> rows.stream().mapToInt(card -> noteSet(card.holes)).reduce(0, (a, b) -> a | b);
        };
    }

    int alike(int card) {
        if (outside(card, 0, cards.size() - 1)) {
            return INVALID;
        }
        Map<List<Integer>, Integer> lastWith = new HashMap<>();
        for (int row = 0; row < card; row++) {
            lastWith.put(notesIn(cards.get(row).holes), row);
        }
        return lastWith.getOrDefault(notesIn(cards.get(card).holes), NONE);
    }

    int best(int what) {
        if (outside(what, 0, 2)) {
            return INVALID;
        }
        if (cards.size() == 24) {
            return LIMIT;
        }
        int last = cards.isEmpty() ? 0 : cards.get(cards.size() - 1).holes;
        // clashes, holes that are not in common, the card: the least one in the order of these is the best one
        TreeSet<Integer> ranks = new TreeSet<>();
        for (int holes = 1; holes < 256; holes++) {
            if (reason(holes) == 0) {
                ranks.add(clashes(holes) * 10000 + (8 - Integer.bitCount(holes & last)) * 1000 + holes);
            }
        }
        if (ranks.isEmpty()) {
            return NONE;
        }
        int first = ranks.first();
        return List.of(first % 1000, first / 10000, 8 - first / 1000 % 10).get(what);
    }

    int key(int what) {
        if (outside(what, 0, 1)) {
            return INVALID;
        }
        List<Tone> tones = tones();
        if (tones.isEmpty()) {
            return NONE;
        }
        List<Integer> fits = new ArrayList<>();
        for (int key = 0; key < 12; key++) {
            List<Integer> inKey = new ArrayList<>();
            for (int step : new int[] {0, 2, 4, 5, 7, 9, 11}) {
                inKey.add((key + step) % 12);
            }
            fits.add((int) tones.stream().filter(tone -> inKey.contains(notes.get(tone.thread) % 12)).count());
        }
        int most = Collections.max(fits);
        return what == 0 ? fits.indexOf(most) : most;
    }

    int like(int what) {
        if (outside(what, 0, 2)) {
            return INVALID;
        }
        List<Integer> olds = new ArrayList<>();
        List<Integer> news = new ArrayList<>();
        cards.forEach(card -> olds.add(card.holes));
        cards.forEach(card -> news.add(what == 0 ? card.holes : card.mirrored().holes));
        if (what != 1) {
            Collections.reverse(news);
        }
        return olds.equals(news) ? 1 : 0;
    }

    int mean() {
        List<Tone> tones = tones();
        if (tones.isEmpty()) {
            return NONE;
        }
        float together = tones.stream().mapToInt(Tone::length).sum();
        return Float.floatToIntBits(together / tones.size());
    }

    int count(int what) {
        return switch (what) {
            case 0 -> cards.size();
            case 1 -> (int) cards.stream().filter(Card::stamp).count();
            case 2 -> tones().size();
            case 3 -> cards.stream().mapToInt(card -> clashes(card.holes)).sum();
            case 4 -> longFloats(0) + longFloats(1) + longFloats(2) + longFloats(3)
                + longFloats(4) + longFloats(5) + longFloats(6) + longFloats(7);
            case 5 -> refusals;
            case 6 -> refusedInARow.isEmpty() ? NONE : refusedInARow.get(0);
            case 7 -> refusedInARow.size();
            case 8 -> (cards.size() + settings.get(0) - 1) / settings.get(0);
            case 9 -> history.size();
            case 10 -> text.length();
            case 20, 21, 22, 23 -> settings.get(what - 20);
            default -> INVALID;
        };
    }

    int undo() {
        if (history.isEmpty()) {
            return IMPOSSIBLE;
        }
        become(history.pop());
        return history.size();
    }

    int type(int character) {
        if (outside(character, 32, 126)) {
            return INVALID;
        }
        if (text.length() == 60) {
            return LIMIT;
        }
        text += (char) character;
        return text.length();
    }

    int clearText() {
        int length = text.length();
        text = "";
        return length;
    }

    int fault(int what) {
        if (outside(what, 0, 2)) {
            return INVALID;
        }
        State before = state();
        Fault fault = firstFault(new ArrayList<>());
        become(before);
        return fault == null ? NONE : List.of(fault.place, fault.reason, fault.cause).get(what);
    }

    int play() {
        State before = state();
        List<String> done = new ArrayList<>();
        if (firstFault(done) != null) {
            become(before);
            return IMPOSSIBLE;
        }
        return changed(before, done.size());
    }

    private Fault firstFault(List<String> done) {
        int place = 0;
        while (place < text.length()) {
            Matcher order = ORDER.matcher(text).region(place, text.length());
            if (!order.lookingAt()) {
                return new Fault(place, 1, breaksOffAt(text.substring(place)));
            }
            int answer = perform(order.group(1));
            if (answer < 0) {
                return new Fault(place, 2, answer);
            }
            done.add(order.group());
            place = order.end();
        }
        return null;
    }

    /** How many characters there are of which some order could still be made. */
    private static int breaksOffAt(String orders) {
        int length = 0;
        while (length < orders.length()) {
            Matcher start = ORDER.matcher(orders.substring(0, length + 1));
            if (!start.matches() && !start.hitEnd()) {
                return length;
            }
            length++;
        }
        return length;
    }

    private int perform(String order) {
        String[] numbers = order.substring(1).split(",");
        return switch (order.charAt(0)) {
            case 'c' -> doBring(order.chars().skip(1).map(digit -> 1 << (digit - '0')).sum());
            case 'n' -> doNote(Integer.parseInt(numbers[0]), Integer.parseInt(numbers[1]));
            case 'k' -> doColour(Integer.parseInt(numbers[0]), Integer.parseInt(numbers[1]));
            case 'x' -> doTear(Integer.parseInt(numbers[0]));
            default -> doTurn();
        };
    }
}
