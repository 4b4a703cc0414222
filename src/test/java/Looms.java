import java.util.Arrays;
import java.util.function.Supplier;

/** Objects to begin a test with, and ways to fill them. */
enum Looms {
    NEW(LoomTunes::new),
    ONE_CARD(Looms::withOneCard),
    IN_USE(Looms::inUse),
    FAULTY_TEXT(Looms::withFaultyText),
    FULL(Looms::fullInAll);

    private final Supplier<LoomTunes> maker;

    Looms(Supplier<LoomTunes> maker) {
        this.maker = maker;
    }

    LoomTunes make() {
        return maker.get();
    }

    /** The clerk allows all holes and all clashes. */
    static LoomTunes lenient() {
        LoomTunes loom = new LoomTunes();
        loom.set(1, 8);
        loom.set(2, 28);
        return loom;
    }

    /** A card like the one ahead is brought until it is taken, so it has a stamp. */
    static LoomTunes with(int... cards) {
        LoomTunes loom = lenient();
        for (int holes : cards) {
            for (int time = 0; time < 3 && loom.bring(holes) > 0; time++) {
                continue;
            }
        }
        return loom;
    }

    /** The same cards, held in as many rows as are told. */
    static LoomTunes rows(int holes, int rows) {
        int[] cards = new int[rows];
        Arrays.fill(cards, holes);
        return with(cards);
    }

    /** The card k has the holes of the number k + 1. */
    static LoomTunes counted(int cards) {
        LoomTunes loom = lenient();
        for (int card = 0; card < cards; card++) {
            loom.bring(card + 1);
        }
        return loom;
    }

    static LoomTunes notes(LoomTunes loom, int... notes) {
        for (int thread = 0; thread < notes.length; thread++) {
            loom.note(thread, notes[thread]);
        }
        return loom;
    }

    static LoomTunes write(LoomTunes loom, String text) {
        for (char sign : text.toCharArray()) {
            loom.type(sign);
        }
        return loom;
    }

    static LoomTunes rewrite(LoomTunes loom, String text) {
        loom.clearText();
        return write(loom, text);
    }

    static LoomTunes text(String text) {
        return write(new LoomTunes(), text);
    }

    private static LoomTunes withOneCard() {
        LoomTunes loom = new LoomTunes();
        loom.bring(9);
        return loom;
    }

    /** Something of all there is: stamps, a card refused twice, four states, an order of each kind. */
    private static LoomTunes inUse() {
        LoomTunes loom = with(3, 5, 5, 72, 0);
        loom.note(1, 40);
        loom.colour(5, 0);
        loom.set(0, 3);
        loom.set(3, 2);
        loom.bring(0);
        loom.bring(0);
        return write(loom, "c01;n3,7;k3,2;x1;t;");
    }

    private static LoomTunes withFaultyText() {
        LoomTunes loom = with(1, 2, 4);
        loom.bring(4);
        return write(loom, "c2;n0,1;k0,1;x99;");
    }

    /** All cards, all characters and all states that there is room for. */
    private static LoomTunes fullInAll() {
        LoomTunes loom = counted(24);
        loom.note(0, 13);
        loom.colour(0, 3);
        loom.swap(0, 1);
        loom.mirror();
        return write(loom, "t;".repeat(30));
    }
}
