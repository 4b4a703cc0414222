/** The boundary cases of what is told of cards, threads, tones, bars and rows, each in a test of its own. */
public final class ThereIsBoundaryTests extends Boundary {
    private static final int[] FIRST_NOTES = {12, 14, 16, 18, 20, 22, 24, 26};

    public static void main(String[] args) {
        new ThereIsBoundaryTests().run(10, 14);
    }

    private void cardIs(LoomTunes loom, int card, int what, int want) {
        due("cardOf(" + card + ", " + what + ")", loom.cardOf(card, what), want);
    }

    private void threadIs(LoomTunes loom, int thread, int what, int want) {
        due("threadOf(" + thread + ", " + what + ")", loom.threadOf(thread, what), want);
    }

    private void toneIs(LoomTunes loom, int tone, int... want) {
        for (int what = 0; what < want.length; what++) {
            due("toneOf(" + tone + ", " + what + ")", loom.toneOf(tone, what), want[what]);
        }
    }

    private void barIs(LoomTunes loom, int bar, int... want) {
        for (int what = 0; what < want.length; what++) {
            due("barOf(" + bar + ", " + what + ")", loom.barOf(bar, what), want[what]);
        }
    }

    /** Cards with all holes and without holes by turns. */
    private static LoomTunes byTurns(int cards) {
        LoomTunes loom = Looms.lenient();
        for (int card = 0; card < cards; card++) {
            loom.bring(card % 2 == 0 ? 255 : 0);
        }
        return loom;
    }

    /** Thread 0 in the rows of the text with "#", thread 1 in the others. */
    private static LoomTunes cloth(String rows) {
        int[] cards = new int[rows.length()];
        for (int row = 0; row < cards.length; row++) {
            cards[row] = rows.charAt(row) == '#' ? 1 : 2;
        }
        return Looms.with(cards);
    }

    // ---- promise 10: cardOf

    void promise10FirstAndLastCard() {
        LoomTunes loom = Looms.counted(24);
        cardIs(loom, 0, 0, 1);
        cardIs(loom, 23, 0, 24);
    }

    void promise10CardBelowTheFirst() {
        for (int part = 0; part <= 9; part++) {
            int what = part;
            errorInAll("cardOf(-1, " + what + ")", INVALID, loom -> loom.cardOf(-1, what));
        }
        errorInAll("cardOf(MIN, 0)", INVALID, loom -> loom.cardOf(MIN, 0));
    }

    void promise10CardBehindTheLast() {
        for (int part = 0; part <= 9; part++) {
            int what = part;
            errorInAll("cardOf(as many as there are, " + what + ")", INVALID, loom -> loom.cardOf(loom.count(0), what));
        }
        errorInAll("cardOf(MAX, 0)", INVALID, loom -> loom.cardOf(MAX, 0));
    }

    void promise10NoCards() {
        error("cardOf(0, 0)", INVALID, loom -> loom.cardOf(0, 0), Looms.NEW);
        error("cardOf(0, 5)", INVALID, loom -> loom.cardOf(0, 5), Looms.NEW);
    }

    void promise10WhatBelowTheLeast() {
        errorInAll("cardOf(0, -1)", INVALID, loom -> loom.cardOf(0, -1));
        errorInAll("cardOf(0, MIN)", INVALID, loom -> loom.cardOf(0, MIN));
    }

    void promise10WhatAboveTheGreatest() {
        errorInAll("cardOf(0, 10)", INVALID, loom -> loom.cardOf(0, 10));
        errorInAll("cardOf(0, MAX)", INVALID, loom -> loom.cardOf(0, MAX));
    }

    void promise10InvalidGoesAheadOfNotFound() {
        LoomTunes loom = Looms.with(0);
        cardIs(loom, 0, 5, NONE);
        cardIs(loom, 0, 10, INVALID);
        cardIs(loom, 0, -1, INVALID);
        cardIs(loom, 1, 5, INVALID);
        cardIs(loom, -1, 6, INVALID);
    }

    void promise10LeastAndGreatestHoles() {
        LoomTunes loom = Looms.with(0, 255, 128);
        cardIs(loom, 0, 0, 0);
        cardIs(loom, 1, 0, 255);
        cardIs(loom, 2, 0, 128);
    }

    void promise10HolesOfACardWithAStamp() {
        LoomTunes loom = Looms.with(255, 255, 0, 0);
        cardIs(loom, 1, 0, 255);
        cardIs(loom, 1, 1, 8);
        cardIs(loom, 3, 0, 0);
        cardIs(loom, 3, 1, 0);
    }

    void promise10HowManyHoles() {
        for (int holes = 0; holes <= 8; holes++) {
            cardIs(Looms.with((1 << holes) - 1), 0, 1, holes);
        }
        cardIs(Looms.with(128), 0, 1, 1);
    }

    void promise10StampOrNone() {
        LoomTunes loom = Looms.with(4, 4);
        cardIs(loom, 0, 2, 0);
        cardIs(loom, 1, 2, 1);
    }

    void promise10ClashesOfNoneAndOneHole() {
        LoomTunes loom = Looms.with(0, 1);
        cardIs(loom, 0, 3, 0);
        cardIs(loom, 1, 3, 0);
    }

    void promise10ClashesOfAllHoles() {
        cardIs(Looms.with(255), 0, 3, 16);
        cardIs(Looms.notes(Looms.with(255), 0, 12, 24, 1, 13, 25, 2, 14), 0, 3, 21);
        cardIs(Looms.notes(Looms.with(255), 9, 9, 9, 9, 9, 9, 9, 9), 0, 3, 0);
    }

    void promise10ClashesOfEachCardAlone() {
        LoomTunes loom = Looms.with(3, 255, 1, 15, 15);
        int[] clashes = {1, 16, 0, 4, 4};
        for (int card = 0; card < clashes.length; card++) {
            cardIs(loom, card, 3, clashes[card]);
        }
    }

    void promise10ClashesOfEachStep() {
        boolean[] clash = {false, true, true, false, false, false, true, false, false, false, true, true};
        for (int step = 0; step <= 47; step++) {
            int want = clash[step % 12] ? 1 : 0;
            cardIs(Looms.notes(Looms.with(3), 0, step), 0, 3, want);
            cardIs(Looms.notes(Looms.with(3), 47, 47 - step), 0, 3, want);
        }
    }

    void promise10NotesWrapAroundAtTwelve() {
        int[] notes = {0, 11, 12, 23, 24, 47};
        int[] sets = {1, 2048, 1, 2048, 1, 2048};
        for (int time = 0; time < notes.length; time++) {
            cardIs(Looms.notes(Looms.with(1), notes[time]), 0, 4, sets[time]);
        }
    }

    void promise10NotesOfNoneAndAllHoles() {
        LoomTunes loom = Looms.with(0, 255);
        cardIs(loom, 0, 4, 0);
        cardIs(loom, 1, 4, 0b10101010101);
    }

    void promise10HighestAndLowestWithoutHoles() {
        LoomTunes loom = Looms.with(1, 0, 0);
        cardIs(loom, 1, 5, NONE);
        cardIs(loom, 1, 6, NONE);
        cardIs(loom, 2, 5, NONE);
        cardIs(loom, 2, 6, NONE);
    }

    void promise10NotFoundChangesNothing() {
        error("cardOf(4, 5)", NONE, loom -> loom.cardOf(4, 5), Looms.IN_USE);
        error("cardOf(4, 6)", NONE, loom -> loom.cardOf(4, 6), Looms.IN_USE);
    }

    void promise10HighestAndLowestOfOneHole() {
        for (int thread = 0; thread < 8; thread++) {
            LoomTunes loom = Looms.with(1 << thread);
            cardIs(loom, 0, 5, FIRST_NOTES[thread]);
            cardIs(loom, 0, 6, FIRST_NOTES[thread]);
        }
    }

    void promise10HighestAndLowestNotesThereAre() {
        LoomTunes loom = Looms.notes(Looms.with(1, 2, 3), 0, 47);
        cardIs(loom, 0, 5, 0);
        cardIs(loom, 0, 6, 0);
        cardIs(loom, 1, 5, 47);
        cardIs(loom, 1, 6, 47);
        cardIs(loom, 2, 5, 47);
        cardIs(loom, 2, 6, 0);
    }

    void promise10HighestAndLowestOfAllHoles() {
        LoomTunes loom = Looms.notes(Looms.with(255), 47, 1, 1, 1, 1, 1, 1, 0);
        cardIs(loom, 0, 5, 47);
        cardIs(loom, 0, 6, 0);
    }

    void promise10TonesThatBeginWithTheFirstCard() {
        cardIs(Looms.with(255), 0, 7, 8);
        cardIs(Looms.with(0), 0, 7, 0);
    }

    void promise10TonesThatAreHeldDoNotBegin() {
        LoomTunes loom = Looms.with(7, 7, 15, 0, 15);
        int[] begin = {3, 0, 1, 0, 4};
        for (int card = 0; card < begin.length; card++) {
            cardIs(loom, card, 7, begin[card]);
        }
    }

    void promise10BarOfTheFirstAndTheLastRowOfABar() {
        for (int rows = 2; rows <= 8; rows++) {
            LoomTunes loom = Looms.counted(24);
            loom.set(0, rows);
            cardIs(loom, 0, 8, 0);
            cardIs(loom, rows - 1, 8, 0);
            cardIs(loom, rows, 8, 1);
            cardIs(loom, 2 * rows - 1, 8, 1);
            cardIs(loom, 23, 8, 23 / rows);
        }
    }

    void promise10ThreadsAboveOfEachColourAlone() {
        int[] all = {8000, 800, 80, 8};
        for (int colour = 0; colour < 4; colour++) {
            LoomTunes loom = Looms.with(255, 0, 128);
            for (int thread = 0; thread < 8; thread++) {
                loom.colour(thread, colour);
            }
            cardIs(loom, 0, 9, all[colour]);
            cardIs(loom, 1, 9, 0);
            cardIs(loom, 2, 9, all[colour] / 8);
        }
    }

    void promise10ThreadsAboveOfAllColours() {
        LoomTunes loom = Looms.with(255, 15, 1);
        cardIs(loom, 0, 9, 2222);
        cardIs(loom, 1, 9, 1111);
        cardIs(loom, 2, 9, 1000);
    }

    void promise10IsNoChange() {
        for (int part = 0; part <= 9; part++) {
            int what = part;
            keepsInAll("cardOf(0, " + what + ")", loom -> loom.cardOf(0, what));
        }
    }

    // ---- promise 11: threadOf

    void promise11LeastAndGreatestThread() {
        LoomTunes loom = Looms.with(129);
        threadIs(loom, 0, 0, 12);
        threadIs(loom, 7, 0, 26);
        threadIs(loom, 0, 3, 1);
        threadIs(loom, 7, 3, 1);
    }

    void promise11ThreadBelowTheLeast() {
        for (int part = 0; part <= 5; part++) {
            int what = part;
            errorInAll("threadOf(-1, " + what + ")", INVALID, loom -> loom.threadOf(-1, what));
        }
        errorInAll("threadOf(MIN, 0)", INVALID, loom -> loom.threadOf(MIN, 0));
    }

    void promise11ThreadAboveTheGreatest() {
        for (int part = 0; part <= 5; part++) {
            int what = part;
            errorInAll("threadOf(8, " + what + ")", INVALID, loom -> loom.threadOf(8, what));
        }
        errorInAll("threadOf(MAX, 0)", INVALID, loom -> loom.threadOf(MAX, 0));
    }

    void promise11WhatBelowTheLeast() {
        errorInAll("threadOf(0, -1)", INVALID, loom -> loom.threadOf(0, -1));
        errorInAll("threadOf(0, MIN)", INVALID, loom -> loom.threadOf(0, MIN));
    }

    void promise11WhatAboveTheGreatest() {
        errorInAll("threadOf(7, 6)", INVALID, loom -> loom.threadOf(7, 6));
        errorInAll("threadOf(7, MAX)", INVALID, loom -> loom.threadOf(7, MAX));
    }

    void promise11NoCards() {
        for (int thread = 0; thread < 8; thread++) {
            for (int what = 2; what <= 5; what++) {
                threadIs(new LoomTunes(), thread, what, 0);
            }
        }
    }

    void promise11LeastAndGreatestNoteAndColour() {
        LoomTunes loom = Looms.notes(new LoomTunes(), 0, 47);
        loom.colour(0, 3);
        loom.colour(1, 0);
        threadIs(loom, 0, 0, 0);
        threadIs(loom, 1, 0, 47);
        threadIs(loom, 0, 1, 3);
        threadIs(loom, 1, 1, 0);
    }

    void promise11NoTonesAndTheMostTones() {
        LoomTunes loom = cloth("#.#.#.#.#.#.#.#.#.#.#.#.");
        threadIs(loom, 0, 2, 12);
        threadIs(loom, 1, 2, 12);
        threadIs(loom, 2, 2, 0);
    }

    void promise11TonesOfTheFirstAndTheLastRow() {
        threadIs(cloth("#.."), 0, 2, 1);
        threadIs(cloth("..#"), 0, 2, 1);
        threadIs(cloth("#.#"), 0, 2, 2);
        threadIs(cloth("###"), 0, 2, 1);
    }

    void promise11RowsFromNoneToAll() {
        LoomTunes loom = Looms.rows(1, 24);
        threadIs(loom, 0, 3, 24);
        threadIs(loom, 1, 3, 0);
        threadIs(cloth("#.##."), 0, 3, 3);
    }

    void promise11LongestFloatFromOneRowToAll() {
        threadIs(Looms.with(1), 0, 4, 1);
        threadIs(Looms.with(1), 7, 4, 1);
        LoomTunes loom = Looms.rows(1, 24);
        threadIs(loom, 0, 4, 24);
        threadIs(loom, 7, 4, 24);
    }

    void promise11LongestFloatAtEachEnd() {
        threadIs(cloth("###.#"), 0, 4, 3);
        threadIs(cloth("#.###"), 0, 4, 3);
        threadIs(cloth("#.###.#"), 0, 4, 3);
        threadIs(cloth("...#."), 0, 4, 3);
        threadIs(cloth("#.#..."), 0, 4, 3);
        threadIs(cloth("#.#.#.#"), 0, 4, 1);
    }

    void promise11AsManyRowsAsTheSettingAreNotLong() {
        for (int allowed = 1; allowed <= 24; allowed++) {
            LoomTunes loom = Looms.rows(1, allowed);
            loom.set(3, allowed);
            threadIs(loom, 0, 5, 0);
            threadIs(loom, 7, 5, 0);
        }
    }

    void promise11OneRowMoreThanTheSettingIsLong() {
        for (int allowed = 1; allowed <= 23; allowed++) {
            LoomTunes loom = Looms.rows(1, allowed + 1);
            loom.set(3, allowed);
            threadIs(loom, 0, 5, 1);
            threadIs(loom, 7, 5, 1);
        }
    }

    void promise11AFloatFarBeyondTheSettingIsOne() {
        LoomTunes loom = Looms.rows(1, 24);
        loom.set(3, 1);
        threadIs(loom, 0, 5, 1);
        threadIs(loom, 7, 5, 1);
    }

    void promise11LongFloatsAboveAndBelowAtEachEnd() {
        LoomTunes loom = cloth("##..#.##");
        loom.set(3, 1);
        threadIs(loom, 0, 5, 3);
        loom.set(3, 2);
        threadIs(loom, 0, 5, 0);
    }

    /** In 24 rows the thread k sounds in the first k + 1 rows, and in the row 12 again. */
    void promise11EachThreadAlone() {
        int[] cards = new int[24];
        for (int row = 0; row < 8; row++) {
            cards[row] = 255 & -1 << row;
        }
        cards[12] = 255;
        LoomTunes loom = Looms.with(cards);
        loom.set(3, 4);
        for (int thread = 0; thread < 8; thread++) {
            threadIs(loom, thread, 2, 2);
            threadIs(loom, thread, 3, thread + 2);
            threadIs(loom, thread, 4, 11);
            threadIs(loom, thread, 5, thread == 7 ? 2 : thread >= 4 ? 3 : 2);
        }
    }

    void promise11LongestFloatOfEachThread() {
        LoomTunes loom = Looms.with(254, 252, 248, 240, 224, 192, 128, 0, 0, 0, 0, 0, 0, 0, 0, 0);
        for (int thread = 0; thread < 8; thread++) {
            threadIs(loom, thread, 4, 16 - thread);
        }
    }

    void promise11TheMostLongFloats() {
        LoomTunes loom = cloth("##..##..##..##..##..##..");
        loom.set(3, 1);
        threadIs(loom, 0, 5, 12);
        threadIs(loom, 1, 5, 12);
        threadIs(loom, 2, 5, 1);
    }

    void promise11IsNoChange() {
        for (int part = 0; part <= 5; part++) {
            int what = part;
            keepsInAll("threadOf(0, " + what + ")", loom -> loom.threadOf(0, what));
        }
    }

    // ---- promise 12: toneOf

    void promise12FirstAndLastTone() {
        LoomTunes loom = Looms.with(6, 2, 3);
        toneIs(loom, 0, 1, 0, 3, 14, 0);
        toneIs(loom, 2, 0, 2, 1, 12, 0);
        toneIs(loom, 3, NONE, NONE, NONE, NONE, NONE);
    }

    void promise12ToneBelowTheLeast() {
        errorInAll("toneOf(-1, 0)", INVALID, loom -> loom.toneOf(-1, 0));
        errorInAll("toneOf(MIN, 4)", INVALID, loom -> loom.toneOf(MIN, 4));
    }

    void promise12NotSoManyTones() {
        for (int part = 0; part <= 4; part++) {
            int what = part;
            errorInAll("toneOf(as many as there are, " + what + ")", NONE, loom -> loom.toneOf(loom.count(2), what));
            errorInAll("toneOf(MAX, " + what + ")", NONE, loom -> loom.toneOf(MAX, what));
        }
    }

    void promise12NoTones() {
        error("toneOf(0, 0)", NONE, loom -> loom.toneOf(0, 0), Looms.NEW);
        due("toneOf(0, 0) without holes", Looms.with(0, 0).toneOf(0, 0), NONE);
    }

    void promise12WhatBelowTheLeast() {
        errorInAll("toneOf(0, -1)", INVALID, loom -> loom.toneOf(0, -1));
        errorInAll("toneOf(0, MIN)", INVALID, loom -> loom.toneOf(0, MIN));
    }

    void promise12WhatAboveTheGreatest() {
        errorInAll("toneOf(0, 5)", INVALID, loom -> loom.toneOf(0, 5));
        errorInAll("toneOf(0, MAX)", INVALID, loom -> loom.toneOf(0, MAX));
    }

    void promise12InvalidGoesAheadOfNotFound() {
        errorInAll("toneOf(MAX, 5)", INVALID, loom -> loom.toneOf(MAX, 5));
        errorInAll("toneOf(MAX, -1)", INVALID, loom -> loom.toneOf(MAX, -1));
        error("toneOf(0, 5)", INVALID, loom -> loom.toneOf(0, 5), Looms.NEW);
    }

    void promise12TonesOfOneRowByTheirThreads() {
        LoomTunes loom = Looms.notes(Looms.with(255), 47, 46, 45, 44, 43, 42, 41, 40);
        for (int thread = 0; thread < 8; thread++) {
            toneIs(loom, thread, thread, 0, 1, 47 - thread, 0);
        }
        toneIs(loom, 8, NONE);
    }

    void promise12RowsGoAheadOfThreads() {
        LoomTunes loom = Looms.with(128, 64, 1);
        toneIs(loom, 0, 7, 0);
        toneIs(loom, 1, 6, 1);
        toneIs(loom, 2, 0, 2);
    }

    void promise12TheMostTones() {
        LoomTunes loom = byTurns(24);
        toneIs(loom, 0, 0, 0, 1);
        toneIs(loom, 95, 7, 22, 1);
        toneIs(loom, 96, NONE);
    }

    void promise12FromOneRowToAllRows() {
        toneIs(Looms.with(1), 0, 0, 0, 1);
        LoomTunes loom = Looms.rows(255, 24);
        toneIs(loom, 0, 0, 0, 24);
        toneIs(loom, 7, 7, 0, 24);
        toneIs(loom, 8, NONE);
    }

    void promise12EndsWithTheLastRow() {
        toneIs(Looms.with(2, 1, 1), 1, 0, 1, 2);
        toneIs(Looms.with(2, 2, 1), 1, 0, 2, 1);
    }

    void promise12OneRowBetweenMakesTwoTones() {
        LoomTunes loom = Looms.with(1, 0, 1);
        toneIs(loom, 0, 0, 0, 1);
        toneIs(loom, 1, 0, 2, 1);
        toneIs(loom, 2, NONE);
    }

    void promise12BarByTheFirstRow() {
        LoomTunes loom = Looms.with(0, 0, 0, 1, 3, 3);
        toneIs(loom, 0, 0, 3, 3, 12, 0);
        toneIs(loom, 1, 1, 4, 2, 14, 1);
        loom.set(0, 3);
        toneIs(loom, 0, 0, 3, 3, 12, 1);
    }

    void promise12IsNoChange() {
        for (int part = 0; part <= 4; part++) {
            int what = part;
            keepsInAll("toneOf(0, " + what + ")", loom -> loom.toneOf(0, what));
        }
    }

    // ---- promise 13: barOf

    void promise13LeastAndGreatestBar() {
        LoomTunes loom = Looms.counted(24);
        loom.set(0, 2);
        barIs(loom, 0, 2, 2, 0, 0b101);
        barIs(loom, 11, 2, 2, 4, 0b101010101);
    }

    void promise13BarBelowTheLeast() {
        for (int part = 0; part <= 3; part++) {
            int what = part;
            errorInAll("barOf(-1, " + what + ")", INVALID, loom -> loom.barOf(-1, what));
        }
        errorInAll("barOf(MIN, 0)", INVALID, loom -> loom.barOf(MIN, 0));
    }

    void promise13BarAboveTheGreatest() {
        for (int part = 0; part <= 3; part++) {
            int what = part;
            errorInAll("barOf(12, " + what + ")", INVALID, loom -> loom.barOf(12, what));
        }
        errorInAll("barOf(MAX, 0)", INVALID, loom -> loom.barOf(MAX, 0));
    }

    void promise13WhatBelowTheLeast() {
        errorInAll("barOf(0, -1)", INVALID, loom -> loom.barOf(0, -1));
        errorInAll("barOf(0, MIN)", INVALID, loom -> loom.barOf(0, MIN));
    }

    void promise13WhatAboveTheGreatest() {
        errorInAll("barOf(11, 4)", INVALID, loom -> loom.barOf(11, 4));
        errorInAll("barOf(11, MAX)", INVALID, loom -> loom.barOf(11, MAX));
    }

    void promise13NoCards() {
        for (int bar = 0; bar < 12; bar++) {
            barIs(new LoomTunes(), bar, 0, 0, 0, 0);
        }
    }

    void promise13TheFirstBarWithoutRows() {
        for (int rows = 2; rows <= 8; rows++) {
            LoomTunes loom = Looms.rows(255, rows);
            loom.set(0, rows);
            barIs(loom, 0, rows, 8, 16 * rows, 0b10101010101);
            barIs(loom, 1, 0, 0, 0, 0);
            barIs(loom, 11, 0, 0, 0, 0);
        }
    }

    void promise13ABarThatHasOneRow() {
        for (int rows = 2; rows <= 8; rows++) {
            LoomTunes loom = Looms.rows(0, rows);
            loom.set(0, rows);
            loom.bring(3);
            barIs(loom, 0, rows, 0, 0, 0);
            barIs(loom, 1, 1, 2, 1, 0b101);
        }
    }

    void promise13AToneIsOfTheBarInWhichItBegins() {
        LoomTunes loom = Looms.with(0, 1, 1, 3, 3);
        loom.set(0, 2);
        barIs(loom, 0, 2, 1, 0, 1);
        barIs(loom, 1, 2, 1, 1, 0b101);
        barIs(loom, 2, 1, 0, 1, 0b101);
    }

    void promise13AllRowsInBarsOf8() {
        LoomTunes loom = Looms.counted(24);
        loom.set(0, 8);
        due("barOf(2, 0)", loom.barOf(2, 0), 8);
        barIs(loom, 3, 0, 0, 0, 0);
    }

    void promise13NotesWrapAroundAtTwelve() {
        LoomTunes loom = Looms.notes(Looms.with(1, 2, 4, 8), 0, 12, 47, 11);
        due("barOf(0, 3)", loom.barOf(0, 3), 1 | 1 << 11);
    }

    void promise13IsNoChange() {
        for (int part = 0; part <= 3; part++) {
            int what = part;
            keepsInAll("barOf(0, " + what + ")", loom -> loom.barOf(0, what));
        }
    }

    // ---- promise 14: alike

    void promise14TheFirstRow() {
        error("alike(0)", NONE, loom -> loom.alike(0), Looms.ONE_CARD, Looms.IN_USE, Looms.FAULTY_TEXT, Looms.FULL);
    }

    void promise14TheSecondRow() {
        due("alike(1)", Looms.with(1, 1).alike(1), 0);
        due("alike(1)", Looms.with(1, 2).alike(1), NONE);
    }

    void promise14TheLastOf24Rows() {
        LoomTunes loom = Looms.counted(24);
        due("alike(23)", loom.alike(23), NONE);
        loom.tear(23);
        loom.bring(1);
        due("alike(23)", loom.alike(23), 0);
    }

    void promise14CardBelowTheFirst() {
        errorInAll("alike(-1)", INVALID, loom -> loom.alike(-1));
        errorInAll("alike(MIN)", INVALID, loom -> loom.alike(MIN));
    }

    void promise14CardBehindTheLast() {
        errorInAll("alike(as many as there are)", INVALID, loom -> loom.alike(loom.count(0)));
        errorInAll("alike(MAX)", INVALID, loom -> loom.alike(MAX));
    }

    void promise14InvalidGoesAheadOfNotFound() {
        error("alike(0)", INVALID, loom -> loom.alike(0), Looms.NEW);
        error("alike(1)", INVALID, loom -> loom.alike(1), Looms.ONE_CARD);
    }

    void promise14OfSeveralTheLast() {
        due("alike(4)", Looms.with(1, 2, 1, 2, 1).alike(4), 2);
        due("alike(2)", Looms.with(1, 1, 1).alike(2), 1);
    }

    void promise14RowsBehindDoNotCount() {
        due("alike(1)", Looms.with(2, 1, 1).alike(1), NONE);
        due("alike(0)", Looms.with(1, 1).alike(0), NONE);
    }

    void promise14RowsWithoutHoles() {
        LoomTunes loom = Looms.with(0, 1, 0);
        due("alike(2)", loom.alike(2), 0);
        due("alike(1)", loom.alike(1), NONE);
    }

    void promise14AsManyOfEachNote() {
        LoomTunes loom = Looms.notes(Looms.with(0b00001, 0b00011, 0b01011, 0b10011), 20, 20, 20, 30, 30);
        due("one and two", loom.alike(1), NONE);
        due("two and three", loom.alike(2), NONE);
        due("other threads", loom.alike(3), 2);
        due("two of one, one of the other", Looms.notes(Looms.with(0b0111, 0b1110), 1, 1, 2, 2).alike(1), NONE);
    }

    void promise14OtherThreadsWithTheSameNotes() {
        LoomTunes loom = Looms.notes(Looms.with(0b00001111, 0b11110000), 1, 2, 3, 4, 4, 3, 2, 1);
        due("alike(1)", loom.alike(1), 0);
    }

    void promise14NotesTwelveApartAreNotTheSame() {
        due("alike(1)", Looms.notes(Looms.with(1, 2), 12, 24).alike(1), NONE);
        due("alike(1)", Looms.notes(Looms.with(1, 2), 0, 12).alike(1), NONE);
    }

    void promise14IsNoChange() {
        keepsInAll("alike(0)", loom -> loom.alike(0));
        keeps("alike(4)", loom -> loom.alike(4), Looms.IN_USE);
    }
}
