import java.util.ArrayList;
import java.util.List;

/** What an object has, in as few calls as tell it: cards, threads, settings, the clerk's memory, counts, the fault. */
final class Seen {
    private Seen() { }

    static List<Integer> of(LoomTunes loom) {
        List<Integer> seen = new ArrayList<>();
        for (int what = 0; what <= 10; what++) {
            seen.add(loom.count(what));
        }
        for (int what = 20; what <= 23; what++) {
            seen.add(loom.count(what));
        }
        for (int thread = 0; thread < 8; thread++) {
            seen.add(loom.threadOf(thread, 0));
            seen.add(loom.threadOf(thread, 1));
        }
        int cards = loom.count(0);
        for (int card = 0; card < cards; card++) {
            seen.add(loom.cardOf(card, 0));
            seen.add(loom.cardOf(card, 2));
        }
        for (int what = 0; what <= 2; what++) {
            seen.add(loom.fault(what));
        }
        return seen;
    }

    /** The same without the number of states, which is another one when a full history has been added to. */
    static List<Integer> butStates(LoomTunes loom) {
        List<Integer> seen = of(loom);
        seen.remove(9);
        return seen;
    }

    static List<Integer> butText(LoomTunes loom) {
        loom.clearText();
        return of(loom);
    }

    /** What was there before the latest changes: of an error, an undone state, or a text something may have gone. */
    static List<Integer> after(LoomTunes loom, int undone) {
        for (int time = 0; time < undone; time++) {
            loom.undo();
        }
        List<Integer> seen = of(loom);
        seen.add(loom.play());
        seen.addAll(of(loom));
        return seen;
    }
}
