/** For each promise of the document its ordinary inputs, its edges and its wrong inputs, worked out by hand. */
public final class PromiseTests {
    private static final int INVALID = LoomTunes.INVALID_ARGUMENT;
    private static final int IMPOSSIBLE = LoomTunes.NOT_POSSIBLE;
    private static final int LIMIT = LoomTunes.LIMIT_REACHED;
    private static final int NONE = LoomTunes.NOT_FOUND;

    private final Checks checks = new Checks("PromiseTests");

    public static void main(String[] args) {
        PromiseTests tests = new PromiseTests();
        tests.promise1NewObject();
        tests.promise2Note();
        tests.promise3Colour();
        tests.promise4BringTaken();
        tests.promise4BringReasons();
        tests.promise4BringThirdTime();
        tests.promise4BringForgets();
        tests.promise4BringWrong();
        tests.promise5Tear();
        tests.promise6Swap();
        tests.promise7Turn();
        tests.promise8Mirror();
        tests.promise9Set();
        tests.promise10CardOf();
        tests.promise10Clashes();
        tests.promise11ThreadOf();
        tests.promise12ToneOf();
        tests.promise13BarOf();
        tests.promise14Alike();
        tests.promise15Would();
        tests.promise16Best();
        tests.promise17Key();
        tests.promise18Like();
        tests.promise19Mean();
        tests.promise20Count();
        tests.promise21Undo();
        tests.promise21UndoOfEachChange();
        tests.changesAfterUndoAndFaults();
        tests.promise22Type();
        tests.promise23ClearText();
        tests.promise24FaultOfForm();
        tests.promise24FaultOfCall();
        tests.promise25Play();
        tests.errorsChangeNothing();
        tests.checks.end();
    }

    private void due(String call, long got, long want) {
        checks.due(call, got, want);
    }

    private static LoomTunes with(int... cards) {
        LoomTunes loom = new LoomTunes();
        loom.set(1, 8);
        loom.set(2, 28);
        for (int holes : cards) {
            for (int time = 0; time < 3 && loom.bring(holes) > 0; time++) {
                continue;
            }
        }
        return loom;
    }

    private static LoomTunes full() {
        int[] cards = new int[24];
        for (int card = 0; card < 24; card++) {
            cards[card] = card + 1;
        }
        return with(cards);
    }

    private static void write(LoomTunes loom, String text) {
        for (char sign : text.toCharArray()) {
            loom.type(sign);
        }
    }

    private static LoomTunes withText(String text) {
        LoomTunes loom = new LoomTunes();
        write(loom, text);
        return loom;
    }

    private void cards(String after, LoomTunes loom, int... holes) {
        due(after + ": count(0)", loom.count(0), holes.length);
        for (int card = 0; card < holes.length; card++) {
            due(after + ": cardOf(" + card + ", 0)", loom.cardOf(card, 0), holes[card]);
        }
    }

    private void fault(LoomTunes loom, String name, int place, int reason, int cause) {
        due("\"" + name + "\": fault(0)", loom.fault(0), place);
        due("\"" + name + "\": fault(1)", loom.fault(1), reason);
        due("\"" + name + "\": fault(2)", loom.fault(2), cause);
        due("\"" + name + "\": play()", loom.play(), place < 0 ? loom.count(10) : IMPOSSIBLE);
    }

    private void promise1NewObject() {
        LoomTunes loom = new LoomTunes();
        for (int thread = 0; thread < 8; thread++) {
            due("new: note", loom.threadOf(thread, 0), 12 + 2 * thread);
            due("new: colour", loom.threadOf(thread, 1), thread % 4);
        }
        int[] first = {0, 0, 0, 0, 0, 0, NONE, 0, 0, 0, 0};
        for (int what = 0; what < first.length; what++) {
            due("new: count(" + what + ")", loom.count(what), first[what]);
        }
        int[] settings = {4, 5, 3, 6};
        for (int what = 0; what < 4; what++) {
            due("new: count(20 + " + what + ")", loom.count(20 + what), settings[what]);
        }
        LoomTunes other = new LoomTunes();
        other.bring(1);
        due("new: another object's card", loom.count(0), 0);
    }

    private void promise2Note() {
        LoomTunes loom = new LoomTunes();
        due("note(3, 0)", loom.note(3, 0), 18);
        due("note(3, 47)", loom.note(3, 47), 0);
        due("note(3, 47) again", loom.note(3, 47), 47);
        due("note(7, 1)", loom.note(7, 1), 26);
        due("note(0, 1)", loom.note(0, 1), 12);
        due("threadOf(3, 0)", loom.threadOf(3, 0), 47);
        due("threadOf(4, 0)", loom.threadOf(4, 0), 20);
        due("note(-1, 0)", loom.note(-1, 0), INVALID);
        due("note(8, 0)", loom.note(8, 0), INVALID);
        due("note(0, -1)", loom.note(0, -1), INVALID);
        due("note(0, 48)", loom.note(0, 48), INVALID);
        due("note(MAX, MIN)", loom.note(Integer.MAX_VALUE, Integer.MIN_VALUE), INVALID);
        due("note: still", loom.threadOf(0, 0), 1);
    }

    private void promise3Colour() {
        LoomTunes loom = new LoomTunes();
        due("colour(7, 0)", loom.colour(7, 0), 3);
        due("colour(7, 3)", loom.colour(7, 3), 0);
        due("colour(7, 3) again", loom.colour(7, 3), 3);
        due("colour(0, 2)", loom.colour(0, 2), 0);
        due("threadOf(0, 1)", loom.threadOf(0, 1), 2);
        due("threadOf(1, 1)", loom.threadOf(1, 1), 1);
        due("colour(-1, 0)", loom.colour(-1, 0), INVALID);
        due("colour(8, 0)", loom.colour(8, 0), INVALID);
        due("colour(0, -1)", loom.colour(0, -1), INVALID);
        due("colour(0, 4)", loom.colour(0, 4), INVALID);
        due("colour(MIN, MAX)", loom.colour(Integer.MIN_VALUE, Integer.MAX_VALUE), INVALID);
        due("colour: still", loom.threadOf(0, 1), 2);
    }

    private void promise4BringTaken() {
        LoomTunes loom = new LoomTunes();
        due("bring(0)", loom.bring(0), 0);
        due("bring(31): five holes", loom.bring(0b10101001), 0);
        cards("bring", loom, 0, 0b10101001);
        due("no stamp", loom.cardOf(1, 2), 0);
    }

    private void promise4BringReasons() {
        LoomTunes loom = new LoomTunes();
        due("five holes, more clashes", loom.bring(0b11111), 2);
        due("six holes", loom.bring(0b111111), 1);
        loom.set(2, 5);
        due("six clashes, 5 allowed", loom.would(0b11111), 2);
        loom.set(2, 6);
        due("six clashes, 6 allowed", loom.bring(0b11111), 0);
        due("like the last", loom.bring(0b11111), 3);
        loom.set(2, 5);
        due("clashes ahead of like", loom.bring(0b11111), 2);
        loom.set(1, 4);
        due("holes ahead of clashes", loom.would(0b11111), 11);
        due("holes ahead of clashes: another card", loom.bring(0b111110), 1);
        due("not like the last one", loom.bring(1), 0);
        due("like the last but one", loom.bring(2), 0);
        due("like the last but one", loom.bring(1), 0);
    }

    private void promise4BringThirdTime() {
        LoomTunes loom = new LoomTunes();
        loom.set(1, 1);
        due("first time", loom.bring(5), 1);
        loom.note(0, 3);
        loom.set(1, 8);
        loom.set(2, 0);
        loom.note(2, 4);
        due("second time, for another reason", loom.bring(5), 2);
        due("remembered", loom.count(6), 5);
        due("twice", loom.count(7), 2);
        due("an error between", loom.bring(256), INVALID);
        due("would() between", loom.would(9), 0);
        due("third time", loom.bring(5), 12);
        due("stamped", loom.cardOf(0, 2), 1);
        due("forgotten", loom.count(6), NONE);
        due("forgotten", loom.count(7), 0);
        loom.set(2, 28);
        due("like a stamped one", loom.bring(5), 3);
        due("like a stamped one", loom.bring(5), 3);
        due("like a stamped one", loom.bring(5), 13);
        loom.set(1, 1);
        loom.bring(3);
        loom.bring(3);
        loom.set(1, 2);
        due("the reason is gone", loom.bring(3), 0);
        due("no stamp", loom.cardOf(2, 2), 0);
        due("forgotten", loom.count(7), 0);
        due("refused", loom.count(5), 6);
    }

    private void promise4BringForgets() {
        LoomTunes loom = new LoomTunes();
        loom.set(1, 1);
        loom.bring(3);
        loom.bring(3);
        due("another one refused", loom.bring(6), 1);
        due("that is remembered then", loom.count(6), 6);
        due("once", loom.count(7), 1);
        due("from the start", loom.bring(3), 1);
        due("from the start", loom.bring(3), 1);
        due("one taken", loom.bring(1), 0);
        due("forgotten", loom.count(6), NONE);
        due("from the start", loom.bring(3), 1);
        due("once", loom.count(7), 1);
        due("the second time", loom.bring(3), 1);
        loom.tear(0);
        due("nothing like it", loom.bring(3), 11);
        due("refused", loom.count(5), 7);
    }

    private void promise4BringWrong() {
        LoomTunes loom = full();
        due("bring(255) of 24", loom.bring(255), LIMIT);
        due("bring(24) of 24: like", loom.bring(24), LIMIT);
        due("bring(256) of 24", loom.bring(256), INVALID);
        due("bring(-1) of 24", loom.bring(-1), INVALID);
        due("count(5)", loom.count(5), 0);
        due("bring(MIN)", new LoomTunes().bring(Integer.MIN_VALUE), INVALID);
        loom.tear(3);
        due("bring(255) of 23", loom.bring(255), 0);
        due("cardOf(23, 0)", loom.cardOf(23, 0), 255);
    }

    private void promise5Tear() {
        LoomTunes loom = with(1, 2, 2, 4, 8);
        due("stamp", loom.cardOf(2, 2), 1);
        due("tear(0)", loom.tear(0), 1);
        cards("tear(0)", loom, 2, 2, 4, 8);
        due("the stamp goes along", loom.cardOf(1, 2), 1);
        due("the stamp leaves", loom.cardOf(2, 2), 0);
        due("tear(3): the last", loom.tear(3), 8);
        due("tear(1)", loom.tear(1), 2);
        cards("tear(1)", loom, 2, 4);
        due("no stamp left", loom.count(1), 0);
        due("tear(2)", loom.tear(2), INVALID);
        due("tear(-1)", loom.tear(-1), INVALID);
        due("tear(MAX)", loom.tear(Integer.MAX_VALUE), INVALID);
        due("tear(0) of none", new LoomTunes().tear(0), INVALID);
    }

    private void promise6Swap() {
        LoomTunes loom = with(1, 2, 2, 4);
        due("swap(0, 2)", loom.swap(0, 2), 2);
        cards("swap(0, 2)", loom, 2, 2, 1, 4);
        due("the stamp goes along", loom.cardOf(0, 2), 1);
        due("the stamp leaves", loom.cardOf(2, 2), 0);
        due("cards with a stamp", loom.count(1), 1);
        due("swap(3, 2)", loom.swap(3, 2), 1);
        cards("swap(3, 2)", loom, 2, 2, 4, 1);
        due("swap(1, 1)", loom.swap(1, 1), INVALID);
        due("swap(0, 4)", loom.swap(0, 4), INVALID);
        due("swap(4, 0)", loom.swap(4, 0), INVALID);
        due("swap(-1, 0)", loom.swap(-1, 0), INVALID);
        due("swap(0, -1)", loom.swap(0, -1), INVALID);
        due("swap(MIN, MAX)", loom.swap(Integer.MIN_VALUE, Integer.MAX_VALUE), INVALID);
    }

    private void promise7Turn() {
        LoomTunes loom = with(1, 1, 2, 4);
        due("turn()", loom.turn(), 4);
        cards("turn()", loom, 4, 2, 1, 1);
        due("the stamp goes along", loom.cardOf(2, 2), 1);
        due("the stamp leaves", loom.cardOf(1, 2), 0);
        loom.tear(0);
        due("turn() of 3", loom.turn(), 3);
        cards("turn() of 3", loom, 1, 1, 2);
        due("turn() of 2", with(1, 2).turn(), 2);
        due("turn() of 1", with(1).turn(), IMPOSSIBLE);
        due("turn() of none", new LoomTunes().turn(), IMPOSSIBLE);
    }

    private void promise8Mirror() {
        LoomTunes loom = with(0, 1, 1, 0b10000001, 0b10110100, 255);
        due("mirror()", loom.mirror(), 3);
        cards("mirror()", loom, 0, 128, 128, 0b10000001, 0b00101101, 255);
        due("the stamp stays", loom.cardOf(2, 2), 1);
        due("the others have none", loom.count(1), 1);
        due("mirror() of one that stays", with(24).mirror(), 0);
        LoomTunes one = with(2);
        due("mirror() of one", one.mirror(), 1);
        cards("mirror() of one", one, 64);
        due("mirror() of none", new LoomTunes().mirror(), IMPOSSIBLE);
    }

    private void promise9Set() {
        int[] first = {4, 5, 3, 6};
        int[] least = {2, 1, 0, 1};
        int[] most = {8, 8, 28, 24};
        for (int what = 0; what < 4; what++) {
            LoomTunes loom = new LoomTunes();
            due("set(" + what + ", least)", loom.set(what, least[what]), first[what]);
            due("set(" + what + ", most)", loom.set(what, most[what]), least[what]);
            due("set(" + what + ", less)", loom.set(what, least[what] - 1), INVALID);
            due("set(" + what + ", more)", loom.set(what, most[what] + 1), INVALID);
            due("set(" + what + ", MIN)", loom.set(what, Integer.MIN_VALUE), INVALID);
            due("set(" + what + ", MAX)", loom.set(what, Integer.MAX_VALUE), INVALID);
            for (int other = 0; other < 4; other++) {
                due("setting " + other, loom.count(20 + other), other == what ? most[what] : first[other]);
            }
        }
        due("set(-1, 4)", new LoomTunes().set(-1, 4), INVALID);
        due("set(4, 4)", new LoomTunes().set(4, 4), INVALID);
        due("set(MAX, 4)", new LoomTunes().set(Integer.MAX_VALUE, 4), INVALID);
    }

    private void promise10CardOf() {
        LoomTunes loom = with(0b10011, 0b110001, 0, 0, 128, 128);
        int[][] answers = {
            {0b10011, 3, 0, 2, 0b100000101, 20, 12, 3, 0, 2100},
            {0b110001, 3, 0, 2, 0b10100000001, 22, 12, 1, 0, 2100},
            {0, 0, 0, 0, 0, NONE, NONE, 0, 0, 0},
            {0, 0, 1, 0, 0, NONE, NONE, 0, 0, 0},
            {128, 1, 0, 0, 4, 26, 26, 1, 1, 1},
            {128, 1, 1, 0, 4, 26, 26, 0, 1, 1}};
        for (int card = 0; card < answers.length; card++) {
            for (int what = 0; what < 10; what++) {
                due("cardOf(" + card + ", " + what + ")", loom.cardOf(card, what), answers[card][what]);
            }
        }
        due("cardOf(0, 10)", loom.cardOf(0, 10), INVALID);
        due("cardOf(0, -1)", loom.cardOf(0, -1), INVALID);
        due("cardOf(2, 10): ahead of NOT_FOUND", loom.cardOf(2, 10), INVALID);
        due("cardOf(6, 0)", loom.cardOf(6, 0), INVALID);
        due("cardOf(-1, 5)", loom.cardOf(-1, 5), INVALID);
        due("cardOf(MAX, 0)", loom.cardOf(Integer.MAX_VALUE, 0), INVALID);
        LoomTunes white = with(255);
        for (int thread = 0; thread < 8; thread++) {
            white.colour(thread, thread < 5 ? 0 : 2);
        }
        due("cardOf(0, 9) of colours 0 and 2", white.cardOf(0, 9), 5030);
        white.note(3, 0);
        due("cardOf(0, 6) of note 0", white.cardOf(0, 6), 0);
        white.note(0, 47);
        due("cardOf(0, 5) of the first thread", white.cardOf(0, 5), 47);
        white.note(7, 47);
        white.note(0, 1);
        due("cardOf(0, 5) of the last thread", white.cardOf(0, 5), 47);
        loom.set(0, 2);
        due("cardOf(5, 8) of bars of 2", loom.cardOf(5, 8), 2);
    }

    private void promise10Clashes() {
        LoomTunes loom = with(3);
        for (int low = 0; low < 48; low++) {
            loom = with(3);
            loom.note(0, low);
            for (int high = low; high < 48; high++) {
                int step = (high - low) % 12;
                int want = step == 1 || step == 2 || step == 6 || step == 10 || step == 11 ? 1 : 0;
                loom.note(1, high);
                due("clashes of " + low + " and " + high, loom.cardOf(0, 3), want);
            }
        }
        loom = with(0, 255);
        for (int thread = 0; thread < 8; thread++) {
            loom.note(thread, 12 * (thread % 4) + thread % 2);
        }
        due("clashes of a pair each", loom.cardOf(1, 3), 16);
        due("below there are none", loom.cardOf(0, 3), 0);
        for (int thread = 0; thread < 8; thread++) {
            loom.note(thread, 30);
        }
        due("clashes of the same note", loom.cardOf(1, 3), 0);
        due("notes of the same note", loom.cardOf(1, 4), 64);
    }

    private void promise11ThreadOf() {
        LoomTunes loom = with(1, 1, 0, 3, 2, 2, 2, 2, 2, 2, 3);
        loom.note(1, 40);
        int[][] answers = {{12, 0, 3, 4, 6, 0}, {40, 1, 1, 8, 8, 1}, {16, 2, 0, 0, 11, 1}};
        for (int thread = 0; thread < 3; thread++) {
            for (int what = 0; what < 6; what++) {
                due("threadOf(" + thread + ", " + what + ")", loom.threadOf(thread, what), answers[thread][what]);
            }
        }
        loom.set(3, 1);
        due("long if more than 1 row", loom.threadOf(0, 5), 2);
        loom.set(3, 2);
        due("long if more than 2 rows", loom.threadOf(0, 5), 1);
        loom.set(3, 8);
        due("not long if 8 rows of 8", loom.threadOf(1, 5), 0);
        loom.set(3, 10);
        due("a float over all rows is long", loom.threadOf(7, 5), 1);
        loom.set(3, 11);
        due("11 rows are not more than 11", loom.threadOf(7, 5), 0);
        due("the longest float of one row", with(1).threadOf(0, 4), 1);
        due("threadOf(0, -1)", loom.threadOf(0, -1), INVALID);
        due("threadOf(0, 6)", loom.threadOf(0, 6), INVALID);
        due("threadOf(-1, 0)", loom.threadOf(-1, 0), INVALID);
        due("threadOf(8, 0)", loom.threadOf(8, 0), INVALID);
        due("threadOf(MIN, MAX)", loom.threadOf(Integer.MIN_VALUE, Integer.MAX_VALUE), INVALID);
        LoomTunes empty = new LoomTunes();
        for (int what = 2; what < 6; what++) {
            due("threadOf(5, " + what + ") of none", empty.threadOf(5, what), 0);
        }
    }

    private void promise12ToneOf() {
        LoomTunes loom = with(0b100, 0b110, 0b001, 0b101, 0b101);
        int[][] tones = {{2, 0, 2, 16, 0}, {1, 1, 1, 14, 0}, {0, 2, 3, 12, 1}, {2, 3, 2, 16, 1}};
        loom.set(0, 2);
        for (int tone = 0; tone < tones.length; tone++) {
            for (int what = 0; what < 5; what++) {
                due("toneOf(" + tone + ", " + what + ")", loom.toneOf(tone, what), tones[tone][what]);
            }
        }
        due("toneOf(4, 0)", loom.toneOf(4, 0), NONE);
        due("toneOf(MAX, 4)", loom.toneOf(Integer.MAX_VALUE, 4), NONE);
        due("toneOf(-1, 0)", loom.toneOf(-1, 0), INVALID);
        due("toneOf(MIN, 0)", loom.toneOf(Integer.MIN_VALUE, 0), INVALID);
        due("toneOf(0, 5)", loom.toneOf(0, 5), INVALID);
        due("toneOf(9, 5): ahead of NOT_FOUND", loom.toneOf(9, 5), INVALID);
        due("toneOf(0, -1)", loom.toneOf(0, -1), INVALID);
        due("toneOf(0, 0) of none", new LoomTunes().toneOf(0, 0), NONE);
        LoomTunes row = with(255);
        for (int thread = 0; thread < 8; thread++) {
            due("of one row by their threads", row.toneOf(thread, 0), thread);
        }
        int[] cards = new int[24];
        for (int card = 0; card < 24; card += 2) {
            cards[card] = 255;
        }
        LoomTunes most = with(cards);
        due("the last one of 96 tones", most.toneOf(95, 1), 22);
        due("there are no 97 tones", most.toneOf(96, 1), NONE);
    }

    private void promise13BarOf() {
        LoomTunes loom = with(0b11, 0b10, 0b100, 0b101, 0b1001);
        loom.set(0, 2);
        int[][] bars = {{2, 2, 1, 0b101}, {2, 2, 0, 0b10001}, {1, 1, 1, 0b1000001}, {0, 0, 0, 0}, {0, 0, 0, 0}};
        for (int bar = 0; bar < bars.length; bar++) {
            for (int what = 0; what < 4; what++) {
                due("barOf(" + bar + ", " + what + ")", loom.barOf(bar, what), bars[bar][what]);
            }
        }
        loom.set(0, 3);
        due("barOf(0, 0) of bars of 3", loom.barOf(0, 0), 3);
        due("barOf(1, 1) of bars of 3", loom.barOf(1, 1), 2);
        due("barOf(11, 0)", loom.barOf(11, 0), 0);
        due("barOf(12, 0)", loom.barOf(12, 0), INVALID);
        due("barOf(-1, 0)", loom.barOf(-1, 0), INVALID);
        due("barOf(0, 4)", loom.barOf(0, 4), INVALID);
        due("barOf(0, -1)", loom.barOf(0, -1), INVALID);
        due("barOf(MAX, MIN)", loom.barOf(Integer.MAX_VALUE, Integer.MIN_VALUE), INVALID);
        LoomTunes full = full();
        full.set(0, 2);
        due("the last bar of 12", full.barOf(11, 0), 2);
    }

    private void promise14Alike() {
        LoomTunes loom = with(1, 2, 1, 4, 1, 0, 3, 0);
        int[] answers = {NONE, NONE, 0, NONE, 2, NONE, NONE, 5};
        for (int card = 0; card < answers.length; card++) {
            due("alike(" + card + ")", loom.alike(card), answers[card]);
        }
        due("alike(8)", loom.alike(8), INVALID);
        due("alike(-1)", loom.alike(-1), INVALID);
        due("alike(MIN)", loom.alike(Integer.MIN_VALUE), INVALID);
        loom = with(0b0011, 0b0101, 0b0110, 0b0111, 0b1011, 0b1100);
        loom.note(0, 20);
        loom.note(1, 30);
        loom.note(2, 30);
        loom.note(3, 20);
        due("other threads, the same notes", loom.alike(1), 0);
        due("as many, but another note", loom.alike(2), NONE);
        due("one note is twice", loom.alike(3), NONE);
        due("another note is twice", loom.alike(4), NONE);
        due("the last one ahead", loom.alike(5), 1);
        loom.note(0, 8);
        due("twelve apart is not the same", loom.alike(5), NONE);
    }

    private void promise15Would() {
        LoomTunes loom = new LoomTunes();
        due("would(0)", loom.would(0), 0);
        due("would(63)", loom.would(63), 1);
        due("would(31)", loom.would(31), 2);
        loom.bring(7);
        due("would(7)", loom.would(7), 3);
        due("would changes nothing", loom.count(5), 0);
        due("would is no change", loom.count(9), 1);
        loom.bring(7);
        due("the second time", loom.would(7), 3);
        loom.bring(7);
        due("the third time", loom.would(7), 13);
        due("the third time again", loom.would(7), 13);
        due("of another one", loom.would(63), 1);
        loom.bring(63);
        due("after another one", loom.would(7), 3);
        due("would(-1)", loom.would(-1), INVALID);
        due("would(256)", loom.would(256), INVALID);
        LoomTunes full = full();
        due("would(1) of 24", full.would(1), LIMIT);
        due("would(256) of 24", full.would(256), INVALID);
    }

    private void promise16Best() {
        LoomTunes loom = new LoomTunes();
        due("best(0) of none", loom.best(0), 1);
        due("best(1) of none", loom.best(1), 0);
        due("best(2) of none", loom.best(2), 0);
        loom.bring(1);
        due("not the last one: 0 and 2 are 4 apart", loom.best(0), 5);
        due("best(2)", loom.best(2), 1);
        loom = new LoomTunes();
        loom.set(2, 28);
        loom.bring(0b11100);
        due("two of the last one that do not clash", loom.best(0), 0b10100);
        due("best(1)", loom.best(1), 0);
        due("best(2)", loom.best(2), 2);
        loom.set(1, 1);
        due("one hole", loom.best(0), 0b00100);
        due("best(2) of one hole", loom.best(2), 1);
        loom = new LoomTunes();
        loom.set(1, 1);
        loom.bring(1);
        due("of those with nothing in common the least", loom.best(0), 2);
        due("best(2)", loom.best(2), 0);
        loom.bring(2);
        loom.bring(2);
        loom.bring(2);
        due("one that would be stamped is none", loom.best(0), 1);
        loom = with(254);
        for (int thread = 0; thread < 8; thread++) {
            loom.note(thread, 20);
        }
        due("all holes", loom.best(0), 255);
        due("best(2) of all holes", loom.best(2), 7);
        loom.note(0, 21);
        due("fewer clashes ahead of more holes in common", loom.best(0), 126);
        due("best(2)", loom.best(2), 6);
        loom.set(1, 2);
        due("fewer holes", loom.best(0), 6);
        due("best(3)", loom.best(3), INVALID);
        due("best(-1)", loom.best(-1), INVALID);
        LoomTunes full = full();
        due("best(2) of 24", full.best(2), LIMIT);
        due("best(3) of 24", full.best(3), INVALID);
    }

    private void promise17Key() {
        int[] steps = {0, 2, 4, 5, 7, 9, 11};
        for (int key = 0; key < 12; key++) {
            LoomTunes loom = with(0b1111111);
            for (int thread = 0; thread < 7; thread++) {
                loom.note(thread, (key + steps[thread]) % 12 + 12 * (thread % 4));
            }
            due("key(0) of " + key, loom.key(0), key);
            due("key(1) of " + key, loom.key(1), 7);
        }
        LoomTunes loom = with(1);
        due("of several the lowest: note 0", loom.key(0), 0);
        loom.note(0, 1);
        due("of several the lowest: note 1", loom.key(0), 1);
        loom.note(0, 3);
        due("of several the lowest: note 3", loom.key(0), 1);
        loom.note(0, 13 + 5);
        due("of several the lowest: note 6", loom.key(0), 1);
        loom = with(3, 3, 3, 0, 2);
        loom.note(0, 12);
        loom.note(1, 13);
        due("tones count, not rows", loom.key(0), 1);
        due("key(1)", loom.key(1), 3);
        due("key(2)", loom.key(2), INVALID);
        due("key(-1)", loom.key(-1), INVALID);
        due("key(0) without a tone", with(0).key(0), NONE);
        due("key(1) without a card", new LoomTunes().key(1), NONE);
        due("key(2) without a card", new LoomTunes().key(2), INVALID);
    }

    private void likes(LoomTunes loom, String name, int turned, int mirrored, int both) {
        due("like(0) of " + name, loom.like(0), turned);
        due("like(1) of " + name, loom.like(1), mirrored);
        due("like(2) of " + name, loom.like(2), both);
    }

    private void promise18Like() {
        likes(new LoomTunes(), "none", 1, 1, 1);
        likes(with(1), "1", 1, 0, 0);
        likes(with(24), "24", 1, 1, 1);
        likes(with(1, 128), "1, 128", 0, 0, 1);
        likes(with(1, 2, 1), "1, 2, 1", 1, 0, 0);
        likes(with(24, 129), "24, 129", 0, 1, 0);
        likes(with(1, 24, 128), "1, 24, 128", 0, 0, 1);
        likes(with(1, 3, 128), "1, 3, 128", 0, 0, 0);
        likes(with(1, 2, 4, 1), "1, 2, 4, 1", 0, 0, 0);
        likes(with(24, 24), "24, 24 with a stamp", 1, 1, 1);
        due("like(3)", with(24).like(3), INVALID);
        due("like(-1)", with(24).like(-1), INVALID);
    }

    private void promise19Mean() {
        due("mean() of none", new LoomTunes().mean(), NONE);
        due("mean() of no tone", with(0).mean(), NONE);
        due("mean() of 1", with(1).mean(), Float.floatToIntBits(1.0f));
        due("mean() of 3, 1", with(1, 3, 1).mean(), Float.floatToIntBits(2.0f));
        due("mean() of 4 / 3", with(7, 1).mean(), Float.floatToIntBits(4.0f / 3.0f));
        due("mean() of 7 / 3", with(1, 3, 7, 1).mean(), Float.floatToIntBits(7.0f / 3.0f));
        int[] cards = new int[24];
        java.util.Arrays.fill(cards, 255);
        due("mean() of 24", with(cards).mean(), Float.floatToIntBits(24.0f));
        cards[23] = 1;
        due("mean() of 185 / 8", with(cards).mean(), Float.floatToIntBits(185.0f / 8.0f));
    }

    private void promise20Count() {
        LoomTunes loom = with(0b11, 0b11, 0b1, 0, 0b111);
        loom.set(3, 2);
        loom.set(0, 3);
        loom.bring(0b111);
        write(loom, "abc");
        int[] answers = {5, 1, 5, 4, 7, 3, 7, 1, 2, 4, 3};
        for (int what = 0; what < answers.length; what++) {
            due("count(" + what + ")", loom.count(what), answers[what]);
        }
        int[] settings = {3, 8, 28, 2};
        for (int what = 0; what < 4; what++) {
            due("count(" + (20 + what) + ")", loom.count(20 + what), settings[what]);
        }
        for (int what : new int[] {-1, 11, 19, 24, Integer.MIN_VALUE, Integer.MAX_VALUE}) {
            due("count(" + what + ")", loom.count(what), INVALID);
        }
        loom = new LoomTunes();
        loom.bring(0);
        loom.bring(0);
        due("count(6) of the card without holes", loom.count(6), 0);
        due("count(8) of one row", loom.count(8), 1);
        loom = with(1, 2, 4, 8);
        due("count(8) of four rows", loom.count(8), 1);
        loom.bring(16);
        due("count(8) of five rows", loom.count(8), 2);
    }

    private void promise21Undo() {
        LoomTunes loom = new LoomTunes();
        due("undo() of none", loom.undo(), IMPOSSIBLE);
        for (int card = 1; card <= 6; card++) {
            loom.bring(card);
            due("states", loom.count(9), Math.min(card, 4));
        }
        for (int left = 3; left >= 0; left--) {
            due("undo()", loom.undo(), left);
            due("cards", loom.count(0), 2 + left);
        }
        due("undo() of no more", loom.undo(), IMPOSSIBLE);
        cards("undo()", loom, 1, 2);
        loom.bring(9);
        due("undo() of a new change", loom.undo(), 0);
        cards("undo()", loom, 1, 2);
    }

    private void promise21UndoOfEachChange() {
        LoomTunes loom = with(1, 2);
        loom.type('t');
        loom.note(3, 40);
        loom.undo();
        due("the note is back", loom.threadOf(3, 0), 18);
        loom.colour(3, 0);
        loom.undo();
        due("the colour is back", loom.threadOf(3, 1), 3);
        loom.tear(0);
        loom.undo();
        cards("undo of tear", loom, 1, 2);
        loom.swap(0, 1);
        loom.undo();
        cards("undo of swap", loom, 1, 2);
        loom.turn();
        loom.undo();
        cards("undo of turn", loom, 1, 2);
        loom.mirror();
        loom.undo();
        cards("undo of mirror", loom, 1, 2);
        loom.set(0, 8);
        loom.undo();
        due("the setting is back", loom.count(20), 4);
        loom.bring(2);
        loom.bring(2);
        loom.bring(2);
        loom.undo();
        due("the stamped card is gone", loom.count(1), 0);
        due("remembered again", loom.count(6), 2);
        due("twice", loom.count(7), 2);
        loom.undo();
        due("once", loom.count(7), 1);
        due("refused once", loom.count(5), 1);
        loom.undo();
        due("not remembered", loom.count(6), NONE);
        due("the text stays", loom.count(10), 1);
        int states = loom.count(9);
        loom.note(0, 12);
        due("a change that changes nothing is one", loom.count(9), states + 1);
        loom.clearText();
        loom.undo();
        due("the text stays empty", loom.count(10), 0);
    }

    /** A card of 3 is brought and taken back, and an order that fails behind others is refused. */
    private static LoomTunes afterUndoAndFaults() {
        LoomTunes loom = with(1, 2);
        loom.bring(3);
        loom.undo();
        write(loom, "c2;n0,1;x99;");
        loom.fault(0);
        loom.play();
        return loom;
    }

    private void changesAfterUndoAndFaults() {
        LoomTunes loom = afterUndoAndFaults();
        due("note", loom.note(0, 9), 12);
        cards("note", loom, 1, 2);
        loom = afterUndoAndFaults();
        due("colour", loom.colour(0, 1), 0);
        cards("colour", loom, 1, 2);
        loom = afterUndoAndFaults();
        due("bring", loom.bring(4), 0);
        cards("bring", loom, 1, 2, 4);
        loom = afterUndoAndFaults();
        due("tear", loom.tear(0), 1);
        cards("tear", loom, 2);
        loom = afterUndoAndFaults();
        due("swap", loom.swap(0, 1), 2);
        cards("swap", loom, 2, 1);
        loom = afterUndoAndFaults();
        due("turn", loom.turn(), 2);
        cards("turn", loom, 2, 1);
        loom = afterUndoAndFaults();
        due("mirror", loom.mirror(), 2);
        cards("mirror", loom, 128, 64);
        loom = afterUndoAndFaults();
        due("set", loom.set(0, 2), 4);
        cards("set", loom, 1, 2);
        loom = afterUndoAndFaults();
        loom.clearText();
        write(loom, "c5;");
        due("play", loom.play(), 1);
        cards("play", loom, 1, 2, 32);
        due("note after all", loom.threadOf(0, 0), 12);
    }

    private void promise22Type() {
        LoomTunes loom = new LoomTunes();
        due("type(31)", loom.type(31), INVALID);
        due("type(127)", loom.type(127), INVALID);
        due("type(MIN)", loom.type(Integer.MIN_VALUE), INVALID);
        due("type(65536 + 116)", loom.type(65536 + 't'), INVALID);
        due("type(32)", loom.type(32), 1);
        due("type(126)", loom.type(126), 2);
        for (int length = 3; length <= 60; length++) {
            due("type(116)", loom.type('t'), length);
        }
        due("type(116) of 60", loom.type('t'), LIMIT);
        due("type(31) of 60", loom.type(31), INVALID);
        due("count(10)", loom.count(10), 60);
        due("type is no change", loom.count(9), 0);
    }

    private void promise23ClearText() {
        LoomTunes loom = withText("t;t");
        due("clearText()", loom.clearText(), 3);
        due("clearText() again", loom.clearText(), 0);
        due("count(10)", loom.count(10), 0);
        due("no fault", loom.fault(0), NONE);
        due("clearText is no change", loom.count(9), 0);
        write(loom, "x");
        fault(loom, "x after clearText", 0, 1, 1);
        loom = withText("x0;");
        loom.clearText();
        write(loom, "x0");
        fault(loom, "x0 after clearText", 0, 1, 2);
    }

    private void promise24FaultOfForm() {
        String[] orders = {
            ";", " ", "a;", "C1;", "c", "c;", "c8;", "c0", "c0,", "c00;", "c10;", "c02465;", "c01234567", "c012345678;",
            "n", "n;", "n,", "n1", "n1;", "n12", "n123,1;", "n1,", "n1,;", "n1,2", "n1,2,", "n1,234;", "n01,02 ;",
            "k", "k-1,1;", "k1.1;", "k1,x", "x", "x;", "x1", "x123;", "x,", "t", "t ", "t1;", "tt"};
        int[] breaks = {
            0, 0, 0, 0, 1, 1, 1, 2, 2, 2, 2, 5, 9, 9,
            1, 1, 1, 2, 2, 3, 3, 3, 3, 4, 4, 5, 6,
            1, 1, 2, 3, 1, 1, 2, 3, 1, 1, 1, 1, 1};
        for (int order = 0; order < orders.length; order++) {
            fault(withText(orders[order]), orders[order], 0, 1, breaks[order]);
            fault(withText("k0,0;" + orders[order]), "k0,0;" + orders[order], 5, 1, breaks[order]);
        }
        fault(withText("c0;c1;c"), "c0;c1;c", 6, 1, 1);
        LoomTunes loom = withText("c01;c0123;");
        for (int what = 0; what < 3; what++) {
            due("no fault: fault(" + what + ")", loom.fault(what), NONE);
            due("empty text: fault(" + what + ")", new LoomTunes().fault(what), NONE);
        }
        due("fault(3)", loom.fault(3), INVALID);
        due("fault(-1)", loom.fault(-1), INVALID);
        due("fault(3) of an empty text", new LoomTunes().fault(3), INVALID);
        due("fault is no change", loom.count(0) + loom.count(9), 0);
    }

    private void promise24FaultOfCall() {
        fault(withText("t;"), "t;", 0, 2, IMPOSSIBLE);
        fault(withText("c0;t;"), "c0;t;", 3, 2, IMPOSSIBLE);
        fault(withText("c0;c0;t;"), "c0;c0;t;", 6, 2, IMPOSSIBLE);
        fault(withText("x0;"), "x0;", 0, 2, INVALID);
        fault(withText("c0;x00;x0;"), "c0;x00;x0;", 7, 2, INVALID);
        fault(withText("n8,0;"), "n8,0;", 0, 2, INVALID);
        fault(withText("n10,0;"), "n10,0;", 0, 2, INVALID);
        fault(withText("n7,47;n7,48;"), "n7,47;n7,48;", 6, 2, INVALID);
        fault(withText("k8,0;"), "k8,0;", 0, 2, INVALID);
        fault(withText("k7,3;k7,4;"), "k7,3;k7,4;", 5, 2, INVALID);
        fault(withText("x99;c"), "the first fault: x99;c", 0, 2, INVALID);
        fault(withText("c;x99;"), "the first fault: c;x99;", 0, 1, 1);
        LoomTunes loom = full();
        write(loom, "x5;c7;c6;");
        fault(loom, "25 cards", 6, 2, LIMIT);
        loom = withText("c0;c1;t;x1;");
        due("on an empty register", loom.fault(0), NONE);
    }

    private void promise25Play() {
        LoomTunes loom = withText("c01;n0,05;k07,1;c01;c01;c1;c2;x1;t;");
        due("play() with a like card", loom.play(), 9);
        cards("play()", loom, 4, 3);
        due("note", loom.threadOf(0, 0), 5);
        due("colour", loom.threadOf(7, 1), 1);
        due("another note", loom.threadOf(1, 0), 14);
        due("refused", loom.count(5), 2);
        due("one change", loom.count(9), 1);
        due("the text stays", loom.count(10), 35);
        due("undo()", loom.undo(), 0);
        due("all is undone", loom.count(0) + loom.count(5), 0);
        due("note again", loom.threadOf(0, 0), 12);
        loom = new LoomTunes();
        due("play() of an empty text", loom.play(), 0);
        due("a change, too", loom.count(9), 1);
        loom = withText("c0;c0;c0;c0;");
        due("play() of a card brought again and again", loom.play(), 4);
        cards("play()", loom, 1, 1);
        due("stamped", loom.cardOf(1, 2), 1);
        due("play() again: like the last one", loom.play(), 4);
        due("cards", loom.count(0), 3);
        due("refused before: the second time", loom.count(7), 1);
        loom = withText("c0;x5;");
        due("play() with a fault", loom.play(), IMPOSSIBLE);
        due("nothing is done", loom.count(0) + loom.count(9), 0);
        loom = withText("c0;c1;t;t;t;t;t;t;t;t;t;t;t;t;t;t;t;t;t;t;t;t;t;t;t;t;t;t;t;");
        due("60 characters", loom.count(10), 60);
        due("29 orders", loom.play(), 29);
        cards("27 times turned", loom, 2, 1);
        loom.clearText();
        write(loom, "c01234;");
        due("refused: no fault", loom.play(), 1);
        due("remembered", loom.count(6), 31);
    }

    private void errorsChangeNothing() {
        LoomTunes loom = with(1, 2);
        int states = loom.count(9);
        loom.undo();
        states--;
        loom.note(8, 0);
        loom.colour(0, 9);
        loom.bring(300);
        loom.tear(7);
        loom.swap(0, 0);
        loom.turn();
        loom.set(0, 1);
        loom.type(0);
        loom.cardOf(9, 9);
        loom.best(5);
        due("errors are no changes", loom.count(9), states);
        cards("errors", loom, 1);
        due("text", loom.count(10), 0);
    }
}
