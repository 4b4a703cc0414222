/** The boundary cases of the history, each in a test of its own. */
public final class HistoryBoundaryTests extends Boundary {
    public static void main(String[] args) {
        new HistoryBoundaryTests().run(21, 21);
    }

    /** The note of the thread 0 is the number of the latest of these changes. */
    private static LoomTunes changed(int times) {
        LoomTunes loom = Looms.notes(new LoomTunes(), 0);
        loom.undo();
        for (int time = 1; time <= times; time++) {
            loom.note(0, time % 48);
        }
        return loom;
    }

    private void undone(String when, LoomTunes loom, int left, int note) {
        due(when + ": undo()", loom.undo(), left);
        due(when + ": count(9)", loom.count(9), left);
        due(when + ": threadOf(0, 0)", loom.threadOf(0, 0), note);
    }

    private void nothingIsLeft(String when, LoomTunes loom, int note) {
        due(when + ": undo()", loom.undo(), IMPOSSIBLE);
        due(when + ": count(9)", loom.count(9), 0);
        due(when + ": threadOf(0, 0)", loom.threadOf(0, 0), note);
    }

    void promise21AnEmptyHistory() {
        error("undo()", IMPOSSIBLE, LoomTunes::undo, Looms.NEW);
    }

    void promise21OneState() {
        LoomTunes loom = changed(1);
        undone("one", loom, 0, 12);
        nothingIsLeft("one", loom, 12);
    }

    void promise21AFullHistory() {
        LoomTunes loom = changed(4);
        due("count(9)", loom.count(9), 4);
        undone("the latest", loom, 3, 3);
        undone("the second", loom, 2, 2);
        undone("the third", loom, 1, 1);
        undone("the oldest", loom, 0, 12);
        nothingIsLeft("four", loom, 12);
    }

    void promise21OneStateMoreThanThereIsRoomFor() {
        LoomTunes loom = changed(5);
        due("count(9)", loom.count(9), 4);
        undone("the latest", loom, 3, 4);
        undone("the second", loom, 2, 3);
        undone("the third", loom, 1, 2);
        undone("the oldest that is kept", loom, 0, 1);
        nothingIsLeft("five", loom, 1);
    }

    void promise21TheOldestIsDroppedAgainAndAgain() {
        for (int changes = 5; changes <= 40; changes++) {
            LoomTunes loom = changed(changes);
            for (int left = 3; left >= 0; left--) {
                undone(changes + " changes", loom, left, changes - 4 + left);
            }
            nothingIsLeft(changes + " changes", loom, changes - 4);
        }
    }

    void promise21AChangeBehindAnUndo() {
        LoomTunes loom = changed(6);
        undone("the latest", loom, 3, 5);
        due("note(0, 40)", loom.note(0, 40), 5);
        due("count(9)", loom.count(9), 4);
        undone("the new one", loom, 3, 5);
        undone("the one ahead of it", loom, 2, 4);
        due("note(0, 41)", loom.note(0, 41), 4);
        due("note(0, 42)", loom.note(0, 42), 41);
        due("note(0, 43)", loom.note(0, 43), 42);
        due("count(9)", loom.count(9), 4);
        undone("of three new ones", loom, 3, 42);
        undone("of three new ones", loom, 2, 41);
        undone("of three new ones", loom, 1, 4);
        undone("an old one", loom, 0, 3);
        nothingIsLeft("all", loom, 3);
    }

    void promise21AChangeBehindTheLastUndo() {
        LoomTunes loom = changed(4);
        for (int time = 0; time < 5; time++) {
            loom.undo();
        }
        due("note(0, 40)", loom.note(0, 40), 12);
        undone("of one new one", loom, 0, 12);
        nothingIsLeft("all", loom, 12);
    }

    void promise21UndoIsNoChange() {
        LoomTunes loom = changed(2);
        undone("the first time", loom, 1, 1);
        undone("the second time", loom, 0, 12);
        nothingIsLeft("the third time", loom, 12);
    }

    void promise21ErrorsLeaveAFullHistory() {
        LoomTunes loom = changed(5);
        loom.note(8, 0);
        loom.colour(0, 4);
        loom.bring(256);
        loom.tear(0);
        loom.swap(0, 1);
        loom.turn();
        loom.mirror();
        loom.set(0, 9);
        loom.type('t');
        loom.play();
        due("count(9)", loom.count(9), 4);
        undone("the latest", loom, 3, 4);
    }

    void promise21EachKindOfChangeIsOneState() {
        LoomTunes loom = Looms.with(1, 2);
        for (int time = 0; time < 4; time++) {
            loom.undo();
        }
        due("bring(4)", loom.bring(4), 0);
        due("count(9)", loom.count(9), 1);
        due("bring(4)", loom.bring(4), 3);
        due("count(9)", loom.count(9), 2);
        due("note(0, 12)", loom.note(0, 12), 12);
        due("count(9)", loom.count(9), 3);
        due("play()", loom.play(), 0);
        due("count(9)", loom.count(9), 4);
    }

    void promise21TheTextStays() {
        LoomTunes loom = changed(1);
        Looms.write(loom, "t;");
        undone("with a text", loom, 0, 12);
        due("count(10)", loom.count(10), 2);
        due("fault(2)", loom.fault(2), IMPOSSIBLE);
    }

    void promise21AClearedTextStaysCleared() {
        LoomTunes loom = Looms.text("c0;");
        loom.note(0, 1);
        loom.clearText();
        undone("without a text", loom, 0, 12);
        due("count(10)", loom.count(10), 0);
        due("fault(0)", loom.fault(0), NONE);
    }

    void promise21ALaterTextStays() {
        LoomTunes loom = Looms.text("c0;");
        loom.play();
        Looms.write(loom, "x");
        due("undo()", loom.undo(), 0);
        due("count(0)", loom.count(0), 0);
        due("count(10)", loom.count(10), 4);
        due("fault(0)", loom.fault(0), 3);
    }

    void promise21WhatWasRefusedComesBack() {
        LoomTunes loom = Looms.with(3);
        loom.bring(3);
        loom.bring(3);
        due("bring(3)", loom.bring(3), 13);
        loom.undo();
        due("count(7) as it was", loom.count(7), 2);
        due("bring(3) again", loom.bring(3), 13);
        loom.undo();
        loom.undo();
        due("count(7) as it was once", loom.count(7), 1);
        due("bring(3) the second time", loom.bring(3), 3);
        due("bring(3) the third time", loom.bring(3), 13);
        due("count(5)", loom.count(5), 2);
    }

    void promise21AForgottenCardComesBack() {
        LoomTunes loom = Looms.with(3);
        loom.bring(3);
        loom.bring(5);
        due("count(6) forgotten", loom.count(6), NONE);
        loom.undo();
        due("count(6) as it was", loom.count(6), 3);
        due("count(7) as it was", loom.count(7), 1);
    }

    void promise21AllThatThereIsComesBack() {
        for (Looms object : Looms.values()) {
            LoomTunes loom = object.make();
            loom.note(0, 0);
            loom.colour(1, 2);
            loom.set(object == Looms.FULL ? 0 : 1, 2);
            loom.bring(31);
            int changes = object == Looms.FULL ? 3 : 4;
            for (int time = 0; time < changes; time++) {
                loom.undo();
            }
            due("what there is in " + object, Seen.butStates(loom), Seen.butStates(object.make()));
        }
    }

    void promise21EachSettingComesBack() {
        for (int what = 0; what < 4; what++) {
            LoomTunes loom = new LoomTunes();
            loom.set(what, 2);
            due("undo()", loom.undo(), 0);
            due("what there is without the setting " + what, Seen.of(loom), Seen.of(new LoomTunes()));
        }
    }

    void promise21TheThreadsComeBack() {
        LoomTunes loom = Looms.text("n0,1;n7,2;k0,3;k7,0;");
        due("play()", loom.play(), 4);
        due("undo()", loom.undo(), 0);
        due("what there is", Seen.butText(loom), Seen.of(new LoomTunes()));
    }

    void promise21StampsComeBack() {
        LoomTunes loom = Looms.with(1, 1, 2);
        loom.tear(1);
        loom.undo();
        stamps("tear undone", loom, "-s-");
        loom.turn();
        loom.swap(0, 1);
        loom.undo();
        stamps("swap undone", loom, "-s-");
        cards("swap undone", loom, 2, 1, 1);
    }

    void promise21AFullRegisterComesBack() {
        LoomTunes loom = Looms.counted(24);
        loom.tear(23);
        loom.tear(0);
        due("undo()", loom.undo(), 3);
        due("undo()", loom.undo(), 2);
        due("count(0)", loom.count(0), 24);
        due("cardOf(0, 0)", loom.cardOf(0, 0), 1);
        due("cardOf(23, 0)", loom.cardOf(23, 0), 24);
        due("bring(99)", loom.bring(99), LIMIT);
    }

    void promise21AnEmptyRegisterComesBack() {
        LoomTunes loom = Looms.ONE_CARD.make();
        due("undo()", loom.undo(), 0);
        due("what there is", Seen.of(loom), Seen.of(new LoomTunes()));
    }
}
