/** The boundary cases of a card that is brought to the clerk, each in a test of its own. */
public final class BringBoundaryTests extends Boundary {
    /** Of the first notes two threads clash if their numbers are an odd number apart, so this has 16 clashes. */
    private static final int ALL_HOLES = 255;

    public static void main(String[] args) {
        new BringBoundaryTests().run(4, 4);
    }

    private static LoomTunes strict(int holes, int clashes) {
        LoomTunes loom = new LoomTunes();
        loom.set(1, holes);
        loom.set(2, clashes);
        return loom;
    }

    /** The answers to the cards, brought one behind another. */
    private void brings(String when, LoomTunes loom, int[] holes, int... want) {
        for (int time = 0; time < holes.length; time++) {
            due(when + ": bring(" + holes[time] + "), the call " + time, loom.bring(holes[time]), want[time]);
        }
    }

    private void memory(String when, LoomTunes loom, int refused, int holes, int times) {
        due(when + ": count(5)", loom.count(5), refused);
        due(when + ": count(6)", loom.count(6), holes);
        due(when + ": count(7)", loom.count(7), times);
    }

    // ---- the range of the holes

    void promise4LeastHoles() {
        LoomTunes loom = new LoomTunes();
        due("bring(0)", loom.bring(0), 0);
        cards("bring(0)", loom, 0);
    }

    void promise4GreatestHoles() {
        LoomTunes loom = Looms.lenient();
        due("bring(255)", loom.bring(255), 0);
        cards("bring(255)", loom, 255);
    }

    void promise4HolesBelowTheLeast() {
        errorInAll("bring(-1)", INVALID, loom -> loom.bring(-1));
        errorInAll("bring(MIN)", INVALID, loom -> loom.bring(MIN));
    }

    void promise4HolesAboveTheGreatest() {
        errorInAll("bring(256)", INVALID, loom -> loom.bring(256));
        errorInAll("bring(MAX)", INVALID, loom -> loom.bring(MAX));
    }

    // ---- how many cards there is room for

    void promise4TheFirstCard() {
        LoomTunes loom = new LoomTunes();
        due("bring(128)", loom.bring(128), 0);
        cards("bring(128)", loom, 128);
    }

    void promise4TheLastCardThereIsRoomFor() {
        LoomTunes loom = Looms.counted(23);
        due("count(0)", loom.count(0), 23);
        due("bring(99)", loom.bring(99), 0);
        due("count(0) then", loom.count(0), 24);
        due("cardOf(23, 0)", loom.cardOf(23, 0), 99);
    }

    void promise4OneCardMoreThanThereIsRoomFor() {
        error("bring(99)", LIMIT, loom -> loom.bring(99), Looms.FULL);
    }

    void promise4InvalidGoesAheadOfTheLimit() {
        error("bring(-1)", INVALID, loom -> loom.bring(-1), Looms.FULL);
        error("bring(256)", INVALID, loom -> loom.bring(256), Looms.FULL);
    }

    void promise4TheLimitGoesAheadOfEachReason() {
        LoomTunes loom = Looms.counted(24);
        due("bring(24): like the last one", loom.bring(24), LIMIT);
        loom.set(2, 0);
        due("bring(3): a clash", loom.bring(3), LIMIT);
        loom.set(1, 1);
        due("bring(5): two holes", loom.bring(5), LIMIT);
        memory("of 24", loom, 0, NONE, 0);
    }

    void promise4RoomForOneAgainAfterTear() {
        LoomTunes loom = Looms.counted(24);
        loom.tear(0);
        due("bring(99)", loom.bring(99), 0);
        due("bring(98)", loom.bring(98), LIMIT);
        due("count(0)", loom.count(0), 24);
    }

    void promise4AStampedCardAsTheLastOneThereIsRoomFor() {
        LoomTunes loom = Looms.counted(23);
        brings("of 23", loom, new int[] {23, 23, 23, 23}, 3, 3, 13, LIMIT);
        due("cardOf(23, 2)", loom.cardOf(23, 2), 1);
    }

    // ---- reason 1

    void promise4AsManyHolesAsAllowed() {
        for (int allowed = 1; allowed <= 8; allowed++) {
            due("of " + allowed + " allowed", strict(allowed, 28).bring((1 << allowed) - 1), 0);
        }
    }

    void promise4OneHoleMoreThanAllowed() {
        for (int allowed = 1; allowed <= 7; allowed++) {
            due("of " + allowed + " allowed", strict(allowed, 28).bring((2 << allowed) - 1), 1);
        }
    }

    void promise4NoHoles() {
        due("bring(0)", strict(1, 0).bring(0), 0);
    }

    // ---- reason 2

    void promise4AsManyClashesAsAllowed() {
        due("none", strict(8, 0).bring(0b01010101), 0);
        due("1", strict(8, 1).bring(0b00000011), 0);
        due("3 at first", new LoomTunes().bring(0b00011101), 0);
        due("4", strict(8, 4).bring(0b00001111), 0);
        due("16", strict(8, 16).bring(ALL_HOLES), 0);
    }

    void promise4OneClashMoreThanAllowed() {
        due("1", strict(8, 0).bring(0b00000011), 2);
        due("4 at first", new LoomTunes().bring(0b00001111), 2);
        due("4", strict(8, 3).bring(0b00001111), 2);
        due("16", strict(8, 15).bring(ALL_HOLES), 2);
    }

    void promise4TheMostClashesThereCanBe() {
        int[] notes = {0, 12, 24, 1, 13, 25, 2, 14};
        due("21 of 20", Looms.notes(strict(8, 20), notes).bring(ALL_HOLES), 2);
        due("21 of 21", Looms.notes(strict(8, 21), notes).bring(ALL_HOLES), 0);
        due("21 of 28", Looms.notes(strict(8, 28), notes).bring(ALL_HOLES), 0);
    }

    void promise4EachStepThatClashesOrDoesNot() {
        boolean[] clash = {false, true, true, false, false, false, true, false, false, false, true, true};
        for (int step = 0; step <= 47; step++) {
            int want = clash[step % 12] ? 2 : 0;
            due("a step up of " + step, Looms.notes(strict(8, 0), 0, step).bring(0b11), want);
            due("a step down of " + step, Looms.notes(strict(8, 0), step, 0).bring(0b11), want);
            due("a step down from 47 of " + step, Looms.notes(strict(8, 0), 47, 47 - step).bring(0b11), want);
        }
    }

    void promise4OnlyThreadsThatSoundClash() {
        due("one hole", strict(8, 0).bring(0b10), 0);
        due("threads 2 and 4", strict(8, 0).bring(0b10100), 0);
    }

    // ---- reason 3

    void promise4LikeTheLastCard() {
        brings("like", new LoomTunes(), new int[] {5, 5}, 0, 3);
        brings("without holes", new LoomTunes(), new int[] {0, 0}, 0, 3);
        brings("all holes", Looms.lenient(), new int[] {255, 255}, 0, 3);
    }

    void promise4LikeNoCardWithoutCards() {
        LoomTunes loom = new LoomTunes();
        loom.bring(0);
        loom.tear(0);
        due("bring(0)", loom.bring(0), 0);
    }

    void promise4LikeTheLastCardButOne() {
        brings("like", new LoomTunes(), new int[] {5, 9, 5}, 0, 0, 0);
    }

    void promise4LikeTheLastCardButForOneHole() {
        for (int hole = 0; hole < 8; hole++) {
            brings("hole " + hole, Looms.lenient(), new int[] {170, 170 ^ 1 << hole}, 0, 0);
        }
    }

    void promise4LikeALastCardWithAStamp() {
        LoomTunes loom = Looms.with(5, 5);
        stamps("5, 5", loom, "-s");
        due("bring(5)", loom.bring(5), 3);
    }

    void promise4LikeTheOneThatIsTheLastAfterAChange() {
        LoomTunes loom = Looms.with(1, 2, 4);
        loom.tear(2);
        due("bring(2) after tear", loom.bring(2), 3);
        loom.turn();
        due("bring(1) after turn", loom.bring(1), 3);
        loom.mirror();
        due("bring(128) after mirror", loom.bring(128), 3);
        loom.swap(0, 1);
        due("bring(64) after swap", loom.bring(64), 3);
    }

    // ---- the first of the reasons

    void promise4HolesGoAheadOfClashes() {
        due("bring(255)", strict(7, 15).bring(255), 1);
    }

    void promise4HolesGoAheadOfLike() {
        LoomTunes loom = Looms.with(5);
        loom.set(1, 1);
        due("bring(5)", loom.bring(5), 1);
    }

    void promise4ClashesGoAheadOfLike() {
        LoomTunes loom = Looms.with(3);
        loom.set(2, 0);
        due("bring(3)", loom.bring(3), 2);
    }

    void promise4HolesGoAheadOfAllOthers() {
        LoomTunes loom = Looms.with(3);
        loom.set(1, 1);
        loom.set(2, 0);
        due("bring(3)", loom.bring(3), 1);
    }

    // ---- what is remembered

    void promise4RefusedOnce() {
        LoomTunes loom = new LoomTunes();
        due("bring(63)", loom.bring(63), 1);
        memory("once", loom, 1, 63, 1);
        cards("once", loom);
    }

    void promise4RefusedTwice() {
        LoomTunes loom = new LoomTunes();
        brings("twice", loom, new int[] {63, 63}, 1, 1);
        memory("twice", loom, 2, 63, 2);
        cards("twice", loom);
    }

    void promise4TakenTheThirdTimeForEachReason() {
        LoomTunes loom = strict(1, 0);
        brings("1", loom, new int[] {5, 5, 5}, 1, 1, 11);
        loom = strict(8, 0);
        brings("2", loom, new int[] {3, 3, 3}, 2, 2, 12);
        loom = new LoomTunes();
        brings("3", loom, new int[] {9, 9, 9, 9}, 0, 3, 3, 13);
        cards("3", loom, 9, 9);
        stamps("3", loom, "-s");
    }

    void promise4TheThirdTimeOfACardWithoutHoles() {
        LoomTunes loom = new LoomTunes();
        brings("without holes", loom, new int[] {0, 0}, 0, 3);
        memory("once", loom, 1, 0, 1);
        brings("without holes", loom, new int[] {0, 0}, 3, 13);
        memory("taken", loom, 2, NONE, 0);
        stamps("taken", loom, "-s");
    }

    void promise4TheReasonIsTheOneThatIsThen() {
        LoomTunes loom = Looms.with(3);
        due("the first time", loom.bring(3), 3);
        loom.set(2, 0);
        due("the second time", loom.bring(3), 2);
        loom.set(1, 1);
        due("the third time", loom.bring(3), 11);
    }

    void promise4NoStampWithoutAReason() {
        LoomTunes loom = Looms.with(3);
        brings("twice", loom, new int[] {3, 3}, 3, 3);
        loom.tear(0);
        due("the third time", loom.bring(3), 0);
        stamps("taken", loom, "-");
        memory("taken", loom, 2, NONE, 0);
    }

    void promise4NoStampOnTheSecondTime() {
        LoomTunes loom = Looms.with(3);
        brings("once", loom, new int[] {3}, 3);
        loom.set(3, 1);
        due("the second time", loom.bring(3), 3);
        cards("the second time", loom, 3);
    }

    void promise4AnotherOneRefusedBetween() {
        LoomTunes loom = strict(1, 28);
        brings("another one", loom, new int[] {3, 3, 5}, 1, 1, 1);
        memory("another one", loom, 3, 5, 1);
        brings("from the start", loom, new int[] {3, 3, 3}, 1, 1, 11);
    }

    void promise4TwoInTurnsAreNeverTaken() {
        LoomTunes loom = strict(1, 28);
        brings("in turns", loom, new int[] {3, 5, 3, 5, 3, 5}, 1, 1, 1, 1, 1, 1);
        memory("in turns", loom, 6, 5, 1);
    }

    void promise4AnotherOneTakenBetween() {
        LoomTunes loom = strict(1, 28);
        brings("another one", loom, new int[] {3, 3, 1}, 1, 1, 0);
        memory("another one", loom, 2, NONE, 0);
        brings("from the start", loom, new int[] {3, 3, 3}, 1, 1, 11);
        stamps("from the start", loom, "-s");
    }

    void promise4ForgottenOnceItIsTaken() {
        LoomTunes loom = strict(1, 28);
        brings("a stamp each third time", loom, new int[] {3, 3, 3, 3, 3, 3}, 1, 1, 11, 1, 1, 11);
        stamps("a stamp each", loom, "ss");
        memory("taken", loom, 4, NONE, 0);
    }

    void promise4AnErrorBetweenIsNoCardThatWasBrought() {
        LoomTunes loom = Looms.with(3);
        brings("with errors between", loom, new int[] {3, 256, 3, -1, 3}, 3, INVALID, 3, INVALID, 13);
    }

    void promise4OtherCallsBetweenAreNoCardsThatWereBrought() {
        LoomTunes loom = Looms.with(24, 129);
        loom.set(1, 1);
        due("the first time", loom.bring(3), 1);
        due("would(5)", loom.would(5), 1);
        due("mirror()", loom.mirror(), 0);
        due("turn()", loom.turn(), 2);
        due("swap(0, 1)", loom.swap(0, 1), 24);
        due("the second time", loom.bring(3), 1);
        due("tear(0)", loom.tear(0), 24);
        due("note(0, 0)", loom.note(0, 0), 12);
        due("colour(0, 1)", loom.colour(0, 1), 0);
        due("type(116)", loom.type('t'), 1);
        due("the third time", loom.bring(3), 11);
    }

    void promise4TheStampIsOfItsCardAlone() {
        LoomTunes loom = new LoomTunes();
        brings("of five", loom, new int[] {1, 1, 1, 1, 2}, 0, 3, 3, 13, 0);
        stamps("of five", loom, "-s-");
        due("count(1)", loom.count(1), 1);
    }

    // ---- as a change

    void promise4IsAChangeIfTaken() {
        change("bring(6)", 0, loom -> loom.bring(6), Looms.NEW);
        change("bring(6)", 0, loom -> loom.bring(6), Looms.IN_USE);
    }

    void promise4IsAChangeIfRefused() {
        change("bring(63)", 1, loom -> loom.bring(63), Looms.NEW);
        change("bring(31)", 2, loom -> loom.bring(31), Looms.NEW);
        change("bring(9)", 3, loom -> loom.bring(9), Looms.ONE_CARD);
        change("bring(4)", 3, loom -> loom.bring(4), Looms.FAULTY_TEXT);
    }

    void promise4IsAChangeIfStamped() {
        change("bring(0)", 13, loom -> loom.bring(0), Looms.IN_USE);
    }
}
