/** The boundary cases of a new object and of the threads, each in a test of its own. */
public final class ThreadBoundaryTests extends Boundary {
    public static void main(String[] args) {
        new ThreadBoundaryTests().run(1, 3);
    }

    // ---- promise 1: a new object

    void promise1Constants() {
        due("INVALID_ARGUMENT", LoomTunes.INVALID_ARGUMENT, INVALID);
        due("NOT_POSSIBLE", LoomTunes.NOT_POSSIBLE, IMPOSSIBLE);
        due("LIMIT_REACHED", LoomTunes.LIMIT_REACHED, LIMIT);
        due("NOT_FOUND", LoomTunes.NOT_FOUND, NONE);
    }

    void promise1FirstNotes() {
        int[] notes = {12, 14, 16, 18, 20, 22, 24, 26};
        for (int thread = 0; thread < 8; thread++) {
            due("threadOf(" + thread + ", 0)", new LoomTunes().threadOf(thread, 0), notes[thread]);
        }
    }

    void promise1FirstColours() {
        int[] colours = {0, 1, 2, 3, 0, 1, 2, 3};
        for (int thread = 0; thread < 8; thread++) {
            due("threadOf(" + thread + ", 1)", new LoomTunes().threadOf(thread, 1), colours[thread]);
        }
    }

    void promise1FirstSettings() {
        int[] settings = {4, 5, 3, 6};
        for (int what = 0; what < 4; what++) {
            due("count(" + (20 + what) + ")", new LoomTunes().count(20 + what), settings[what]);
        }
    }

    void promise1NoCards() {
        LoomTunes loom = new LoomTunes();
        due("count(0)", loom.count(0), 0);
        due("count(1)", loom.count(1), 0);
        due("count(2)", loom.count(2), 0);
        due("cardOf(0, 0)", loom.cardOf(0, 0), INVALID);
    }

    void promise1NothingRefused() {
        LoomTunes loom = new LoomTunes();
        due("count(5)", loom.count(5), 0);
        due("count(6)", loom.count(6), NONE);
        due("count(7)", loom.count(7), 0);
    }

    void promise1NoHistory() {
        LoomTunes loom = new LoomTunes();
        due("count(9)", loom.count(9), 0);
        due("undo()", loom.undo(), IMPOSSIBLE);
    }

    void promise1NoText() {
        LoomTunes loom = new LoomTunes();
        due("count(10)", loom.count(10), 0);
        due("fault(0)", loom.fault(0), NONE);
    }

    void promise1ObjectsShareNothing() {
        LoomTunes one = new LoomTunes();
        LoomTunes other = new LoomTunes();
        one.note(0, 0);
        one.colour(0, 3);
        one.set(0, 8);
        one.bring(0);
        one.bring(0);
        one.type('t');
        due("the other one", Seen.of(other), Seen.of(new LoomTunes()));
    }

    void promise1The512thCall() {
        LoomTunes loom = new LoomTunes();
        for (int call = 1; call <= 511; call++) {
            due("bring() as call " + call, loom.bring(254 + call % 2), 1);
        }
        due("count(5) as call 512", loom.count(5), 511);
    }

    // ---- promise 2: note

    void promise2LeastThread() {
        LoomTunes loom = new LoomTunes();
        due("note(0, 30)", loom.note(0, 30), 12);
        due("threadOf(0, 0)", loom.threadOf(0, 0), 30);
    }

    void promise2GreatestThread() {
        LoomTunes loom = new LoomTunes();
        due("note(7, 30)", loom.note(7, 30), 26);
        due("threadOf(7, 0)", loom.threadOf(7, 0), 30);
    }

    void promise2ThreadBelowTheLeast() {
        errorInAll("note(-1, 0)", INVALID, loom -> loom.note(-1, 0));
        errorInAll("note(MIN, 0)", INVALID, loom -> loom.note(MIN, 0));
    }

    void promise2ThreadAboveTheGreatest() {
        errorInAll("note(8, 0)", INVALID, loom -> loom.note(8, 0));
        errorInAll("note(MAX, 0)", INVALID, loom -> loom.note(MAX, 0));
    }

    void promise2LeastNote() {
        LoomTunes loom = new LoomTunes();
        due("note(4, 0)", loom.note(4, 0), 20);
        due("threadOf(4, 0)", loom.threadOf(4, 0), 0);
    }

    void promise2GreatestNote() {
        LoomTunes loom = new LoomTunes();
        due("note(4, 47)", loom.note(4, 47), 20);
        due("threadOf(4, 0)", loom.threadOf(4, 0), 47);
    }

    void promise2NoteBelowTheLeast() {
        errorInAll("note(0, -1)", INVALID, loom -> loom.note(0, -1));
        errorInAll("note(0, MIN)", INVALID, loom -> loom.note(0, MIN));
    }

    void promise2NoteAboveTheGreatest() {
        errorInAll("note(7, 48)", INVALID, loom -> loom.note(7, 48));
        errorInAll("note(7, MAX)", INVALID, loom -> loom.note(7, MAX));
    }

    void promise2BothOutside() {
        errorInAll("note(8, 48)", INVALID, loom -> loom.note(8, 48));
        errorInAll("note(-1, -1)", INVALID, loom -> loom.note(-1, -1));
    }

    void promise2ReturnsWhatItWas() {
        LoomTunes loom = new LoomTunes();
        due("note(3, 0)", loom.note(3, 0), 18);
        due("note(3, 47)", loom.note(3, 47), 0);
        due("note(3, 1)", loom.note(3, 1), 47);
    }

    void promise2TheSameNoteAgain() {
        change("note(0, 12)", 12, loom -> loom.note(0, 12), Looms.NEW);
        change("note(1, 40)", 40, loom -> loom.note(1, 40), Looms.IN_USE);
    }

    void promise2TheNoteOfAnotherThread() {
        LoomTunes loom = new LoomTunes();
        due("note(0, 14)", loom.note(0, 14), 12);
        due("threadOf(0, 0)", loom.threadOf(0, 0), 14);
        due("threadOf(1, 0)", loom.threadOf(1, 0), 14);
    }

    void promise2OtherThreadsStay() {
        LoomTunes loom = new LoomTunes();
        loom.note(3, 40);
        for (int thread = 0; thread < 8; thread++) {
            due("threadOf(" + thread + ", 0)", loom.threadOf(thread, 0), thread == 3 ? 40 : 12 + 2 * thread);
            due("threadOf(" + thread + ", 1)", loom.threadOf(thread, 1), thread % 4);
        }
    }

    void promise2IsAChange() {
        change("note(7, 0)", 26, loom -> loom.note(7, 0), Looms.NEW);
        change("note(7, 0)", 26, loom -> loom.note(7, 0), Looms.FULL);
    }

    // ---- promise 3: colour

    void promise3LeastThread() {
        LoomTunes loom = new LoomTunes();
        due("colour(0, 2)", loom.colour(0, 2), 0);
        due("threadOf(0, 1)", loom.threadOf(0, 1), 2);
    }

    void promise3GreatestThread() {
        LoomTunes loom = new LoomTunes();
        due("colour(7, 2)", loom.colour(7, 2), 3);
        due("threadOf(7, 1)", loom.threadOf(7, 1), 2);
    }

    void promise3ThreadBelowTheLeast() {
        errorInAll("colour(-1, 0)", INVALID, loom -> loom.colour(-1, 0));
        errorInAll("colour(MIN, 0)", INVALID, loom -> loom.colour(MIN, 0));
    }

    void promise3ThreadAboveTheGreatest() {
        errorInAll("colour(8, 0)", INVALID, loom -> loom.colour(8, 0));
        errorInAll("colour(MAX, 0)", INVALID, loom -> loom.colour(MAX, 0));
    }

    void promise3LeastColour() {
        LoomTunes loom = new LoomTunes();
        due("colour(5, 0)", loom.colour(5, 0), 1);
        due("threadOf(5, 1)", loom.threadOf(5, 1), 0);
    }

    void promise3GreatestColour() {
        LoomTunes loom = new LoomTunes();
        due("colour(5, 3)", loom.colour(5, 3), 1);
        due("threadOf(5, 1)", loom.threadOf(5, 1), 3);
    }

    void promise3ColourBelowTheLeast() {
        errorInAll("colour(0, -1)", INVALID, loom -> loom.colour(0, -1));
        errorInAll("colour(0, MIN)", INVALID, loom -> loom.colour(0, MIN));
    }

    void promise3ColourAboveTheGreatest() {
        errorInAll("colour(7, 4)", INVALID, loom -> loom.colour(7, 4));
        errorInAll("colour(7, MAX)", INVALID, loom -> loom.colour(7, MAX));
    }

    void promise3BothOutside() {
        errorInAll("colour(8, 4)", INVALID, loom -> loom.colour(8, 4));
        errorInAll("colour(-1, -1)", INVALID, loom -> loom.colour(-1, -1));
    }

    void promise3ReturnsWhatItWas() {
        LoomTunes loom = new LoomTunes();
        due("colour(7, 0)", loom.colour(7, 0), 3);
        due("colour(7, 3)", loom.colour(7, 3), 0);
        due("colour(7, 1)", loom.colour(7, 1), 3);
    }

    void promise3TheSameColourAgain() {
        change("colour(2, 2)", 2, loom -> loom.colour(2, 2), Looms.NEW);
        change("colour(5, 0)", 0, loom -> loom.colour(5, 0), Looms.IN_USE);
    }

    void promise3OtherThreadsStay() {
        LoomTunes loom = new LoomTunes();
        loom.colour(3, 0);
        for (int thread = 0; thread < 8; thread++) {
            due("threadOf(" + thread + ", 1)", loom.threadOf(thread, 1), thread == 3 ? 0 : thread % 4);
            due("threadOf(" + thread + ", 0)", loom.threadOf(thread, 0), 12 + 2 * thread);
        }
    }

    void promise3IsAChange() {
        change("colour(7, 0)", 3, loom -> loom.colour(7, 0), Looms.NEW);
        change("colour(7, 0)", 3, loom -> loom.colour(7, 0), Looms.FULL);
    }
}
