/** The boundary cases of the changes of cards and settings, each in a test of its own. */
public final class CardBoundaryTests extends Boundary {
    private static final int[] LEAST = {2, 1, 0, 1};
    private static final int[] GREATEST = {8, 8, 28, 24};
    private static final int[] FIRST = {4, 5, 3, 6};

    public static void main(String[] args) {
        new CardBoundaryTests().run(5, 9);
    }

    private static int[] countedUp(int cards) {
        int[] holes = new int[cards];
        for (int card = 0; card < cards; card++) {
            holes[card] = card + 1;
        }
        return holes;
    }

    /** Three states are in the history, so one more can be told. */
    private static LoomTunes threeCards(int first, int second, int third) {
        LoomTunes loom = new LoomTunes();
        loom.bring(first);
        loom.bring(second);
        loom.bring(third);
        return loom;
    }

    // ---- promise 5: tear

    void promise5TheFirstCard() {
        LoomTunes loom = Looms.with(1, 2, 4);
        due("tear(0)", loom.tear(0), 1);
        cards("tear(0)", loom, 2, 4);
    }

    void promise5TheLastCard() {
        LoomTunes loom = Looms.with(1, 2, 4);
        due("tear(2)", loom.tear(2), 4);
        cards("tear(2)", loom, 1, 2);
        due("cardOf(2, 0)", loom.cardOf(2, 0), INVALID);
    }

    void promise5OneBetween() {
        LoomTunes loom = Looms.with(1, 2, 4);
        due("tear(1)", loom.tear(1), 2);
        cards("tear(1)", loom, 1, 4);
    }

    void promise5TheOnlyCard() {
        LoomTunes loom = Looms.with(7);
        due("tear(0)", loom.tear(0), 7);
        cards("tear(0)", loom);
        due("tear(0) again", loom.tear(0), INVALID);
    }

    void promise5TheFirstAndTheLastOf24() {
        LoomTunes loom = Looms.counted(24);
        due("tear(23)", loom.tear(23), 24);
        due("tear(0)", loom.tear(0), 1);
        due("count(0)", loom.count(0), 22);
        due("cardOf(0, 0)", loom.cardOf(0, 0), 2);
        due("cardOf(21, 0)", loom.cardOf(21, 0), 23);
        due("cardOf(22, 0)", loom.cardOf(22, 0), INVALID);
    }

    void promise5CardBelowTheFirst() {
        errorInAll("tear(-1)", INVALID, loom -> loom.tear(-1));
        errorInAll("tear(MIN)", INVALID, loom -> loom.tear(MIN));
    }

    void promise5CardBehindTheLast() {
        errorInAll("tear(as many as there are)", INVALID, loom -> loom.tear(loom.count(0)));
        errorInAll("tear(MAX)", INVALID, loom -> loom.tear(MAX));
        error("tear(24)", INVALID, loom -> loom.tear(24), Looms.FULL);
    }

    void promise5NoCards() {
        error("tear(0)", INVALID, loom -> loom.tear(0), Looms.NEW);
    }

    void promise5StampsGoAlong() {
        LoomTunes loom = Looms.with(1, 1, 2, 2, 4);
        stamps("at first", loom, "-s-s-");
        loom.tear(0);
        stamps("tear(0)", loom, "s-s-");
        loom.tear(2);
        stamps("tear(2)", loom, "s--");
        due("count(1)", loom.count(1), 1);
    }

    void promise5TheStampIsNotLeftForTheNextCard() {
        LoomTunes loom = Looms.with(1, 1);
        loom.tear(1);
        loom.bring(2);
        stamps("bring(2)", loom, "--");
    }

    void promise5TheHolesOfACardWithAStamp() {
        due("tear(1)", Looms.with(1, 1).tear(1), 1);
        due("tear(1)", Looms.with(255, 255).tear(1), 255);
        due("tear(1)", Looms.with(0, 0).tear(1), 0);
    }

    void promise5ACardWithoutHolesIsAChange() {
        LoomTunes loom = new LoomTunes();
        loom.bring(0);
        due("tear(0)", loom.tear(0), 0);
        due("count(9)", loom.count(9), 2);
    }

    void promise5WhatWasRefusedIsStillRemembered() {
        LoomTunes loom = Looms.with(1, 2);
        loom.bring(2);
        loom.tear(1);
        due("count(6)", loom.count(6), 2);
        due("count(7)", loom.count(7), 1);
    }

    void promise5IsAChange() {
        change("tear(0)", 9, loom -> loom.tear(0), Looms.ONE_CARD);
        change("tear(23)", 24, loom -> loom.tear(23), Looms.FULL);
        change("tear(2)", 5, loom -> loom.tear(2), Looms.IN_USE);
    }

    // ---- promise 6: swap

    void promise6TheFirstAndTheLast() {
        LoomTunes loom = Looms.with(1, 2, 4);
        due("swap(0, 2)", loom.swap(0, 2), 4);
        cards("swap(0, 2)", loom, 4, 2, 1);
    }

    void promise6TheLastAndTheFirst() {
        LoomTunes loom = Looms.with(1, 2, 4);
        due("swap(2, 0)", loom.swap(2, 0), 1);
        cards("swap(2, 0)", loom, 4, 2, 1);
    }

    void promise6NeighboursOfTwo() {
        LoomTunes loom = Looms.with(1, 2);
        due("swap(0, 1)", loom.swap(0, 1), 2);
        cards("swap(0, 1)", loom, 2, 1);
    }

    void promise6TheFirstAndTheLastOf24() {
        LoomTunes loom = Looms.counted(24);
        due("swap(23, 0)", loom.swap(23, 0), 1);
        int[] holes = countedUp(24);
        holes[0] = 24;
        holes[23] = 1;
        cards("swap(23, 0)", loom, holes);
    }

    void promise6BothTheSame() {
        error("swap(0, 0)", INVALID, loom -> loom.swap(0, 0), Looms.ONE_CARD, Looms.IN_USE, Looms.FULL);
        error("swap(2, 2)", INVALID, loom -> loom.swap(2, 2), Looms.IN_USE, Looms.FAULTY_TEXT, Looms.FULL);
        error("swap(23, 23)", INVALID, loom -> loom.swap(23, 23), Looms.FULL);
    }

    void promise6BothTheSameAndNoCards() {
        errorInAll("swap(-1, -1)", INVALID, loom -> loom.swap(-1, -1));
        errorInAll("swap(24, 24)", INVALID, loom -> loom.swap(24, 24));
        error("swap(0, 0)", INVALID, loom -> loom.swap(0, 0), Looms.NEW);
    }

    void promise6OneBelowTheFirst() {
        errorInAll("swap(-1, 0)", INVALID, loom -> loom.swap(-1, 0));
        errorInAll("swap(MIN, 0)", INVALID, loom -> loom.swap(MIN, 0));
    }

    void promise6OneBehindTheLast() {
        errorInAll("swap(as many as there are, 0)", INVALID, loom -> loom.swap(loom.count(0), 0));
        errorInAll("swap(MAX, 0)", INVALID, loom -> loom.swap(MAX, 0));
    }

    void promise6OtherBelowTheFirst() {
        errorInAll("swap(0, -1)", INVALID, loom -> loom.swap(0, -1));
        errorInAll("swap(0, MIN)", INVALID, loom -> loom.swap(0, MIN));
    }

    void promise6OtherBehindTheLast() {
        errorInAll("swap(0, as many as there are)", INVALID, loom -> loom.swap(0, loom.count(0)));
        errorInAll("swap(0, MAX)", INVALID, loom -> loom.swap(0, MAX));
    }

    void promise6TooFewCards() {
        error("swap(0, 1)", INVALID, loom -> loom.swap(0, 1), Looms.NEW, Looms.ONE_CARD);
        error("swap(1, 0)", INVALID, loom -> loom.swap(1, 0), Looms.NEW, Looms.ONE_CARD);
    }

    void promise6StampsGoAlong() {
        LoomTunes loom = Looms.with(1, 1, 2);
        stamps("at first", loom, "-s-");
        due("swap(1, 2)", loom.swap(1, 2), 2);
        stamps("swap(1, 2)", loom, "--s");
        due("swap(0, 2)", loom.swap(0, 2), 1);
        stamps("swap(0, 2)", loom, "s--");
    }

    void promise6TheHolesOfACardWithAStamp() {
        due("swap(0, 2)", Looms.with(1, 2, 2).swap(0, 2), 2);
        due("swap(2, 0)", Looms.with(1, 2, 2).swap(2, 0), 1);
    }

    void promise6CardsWithTheSameHolesAreAChange() {
        LoomTunes loom = threeCards(1, 2, 1);
        due("swap(0, 2)", loom.swap(0, 2), 1);
        cards("swap(0, 2)", loom, 1, 2, 1);
        due("count(9)", loom.count(9), 4);
    }

    void promise6ACardWithoutHolesIsNoError() {
        LoomTunes loom = Looms.with(1, 0);
        due("swap(0, 1)", loom.swap(0, 1), 0);
        cards("swap(0, 1)", loom, 0, 1);
    }

    void promise6IsAChange() {
        change("swap(0, 3)", 72, loom -> loom.swap(0, 3), Looms.IN_USE);
        change("swap(1, 0)", 64, loom -> loom.swap(1, 0), Looms.FULL);
    }

    // ---- promise 7: turn

    void promise7NoCards() {
        error("turn()", IMPOSSIBLE, LoomTunes::turn, Looms.NEW);
    }

    void promise7OneCard() {
        error("turn()", IMPOSSIBLE, LoomTunes::turn, Looms.ONE_CARD);
    }

    void promise7TwoCards() {
        LoomTunes loom = Looms.with(1, 2);
        due("turn()", loom.turn(), 2);
        cards("turn()", loom, 2, 1);
    }

    void promise7ThreeCards() {
        LoomTunes loom = Looms.with(1, 2, 4);
        due("turn()", loom.turn(), 3);
        cards("turn()", loom, 4, 2, 1);
    }

    void promise7FourCards() {
        LoomTunes loom = Looms.with(1, 2, 4, 8);
        due("turn()", loom.turn(), 4);
        cards("turn()", loom, 8, 4, 2, 1);
    }

    void promise7AllCards() {
        LoomTunes loom = Looms.counted(24);
        due("turn()", loom.turn(), 24);
        int[] holes = new int[24];
        for (int card = 0; card < 24; card++) {
            holes[card] = 24 - card;
        }
        cards("turn()", loom, holes);
    }

    void promise7AfterTheOneButLastIsTorn() {
        LoomTunes loom = Looms.with(1, 2);
        loom.tear(1);
        due("turn()", loom.turn(), IMPOSSIBLE);
        cards("turn()", loom, 1);
    }

    void promise7StampsGoAlong() {
        LoomTunes loom = Looms.with(1, 1, 2);
        loom.turn();
        stamps("turn()", loom, "-s-");
        loom.tear(0);
        loom.turn();
        stamps("turn() of two", loom, "-s");
    }

    void promise7CardsThatAreLikeTurnedAreAChange() {
        LoomTunes loom = threeCards(1, 2, 1);
        due("turn()", loom.turn(), 3);
        cards("turn()", loom, 1, 2, 1);
        due("count(9)", loom.count(9), 4);
    }

    void promise7IsAChange() {
        change("turn()", 5, LoomTunes::turn, Looms.IN_USE);
        change("turn()", 24, LoomTunes::turn, Looms.FULL);
    }

    // ---- promise 8: mirror

    void promise8NoCards() {
        error("mirror()", IMPOSSIBLE, LoomTunes::mirror, Looms.NEW);
    }

    void promise8NoCardsAnyMore() {
        LoomTunes loom = Looms.with(1);
        loom.tear(0);
        due("mirror()", loom.mirror(), IMPOSSIBLE);
    }

    void promise8EachHole() {
        for (int hole = 0; hole < 8; hole++) {
            LoomTunes loom = Looms.with(1 << hole);
            due("mirror() of hole " + hole, loom.mirror(), 1);
            cards("mirror() of hole " + hole, loom, 128 >> hole);
        }
    }

    void promise8NoHoleAndAllHoles() {
        LoomTunes loom = Looms.with(0, 255);
        due("mirror()", loom.mirror(), 0);
        cards("mirror()", loom, 0, 255);
    }

    void promise8NoCardIsAnotherOne() {
        LoomTunes loom = Looms.with(24, 129, 66, 36);
        due("mirror()", loom.mirror(), 0);
        cards("mirror()", loom, 24, 129, 66, 36);
    }

    void promise8OneCardIsAnotherOne() {
        LoomTunes loom = Looms.with(24, 129, 67, 36);
        due("mirror()", loom.mirror(), 1);
        cards("mirror()", loom, 24, 129, 194, 36);
    }

    void promise8All24CardsAreOtherOnes() {
        LoomTunes loom = Looms.lenient();
        for (int card = 0; card < 24; card++) {
            loom.bring(1 + card % 2);
        }
        due("mirror()", loom.mirror(), 24);
        for (int card = 0; card < 24; card++) {
            due("cardOf(" + card + ", 0)", loom.cardOf(card, 0), 128 >> card % 2);
        }
    }

    void promise8StampsStay() {
        LoomTunes loom = Looms.with(1, 1, 2);
        due("mirror()", loom.mirror(), 3);
        cards("mirror()", loom, 128, 128, 64);
        stamps("mirror()", loom, "-s-");
    }

    void promise8ThreadsStay() {
        LoomTunes loom = Looms.with(1);
        loom.mirror();
        due("threadOf(0, 0)", loom.threadOf(0, 0), 12);
        due("threadOf(7, 1)", loom.threadOf(7, 1), 3);
        due("cardOf(0, 5)", loom.cardOf(0, 5), 26);
    }

    void promise8NoOtherOnesAreAChange() {
        LoomTunes loom = new LoomTunes();
        loom.bring(24);
        due("mirror()", loom.mirror(), 0);
        due("count(9)", loom.count(9), 2);
        due("undo()", loom.undo(), 1);
    }

    void promise8IsAChange() {
        change("mirror()", 1, LoomTunes::mirror, Looms.ONE_CARD);
        change("mirror()", 4, LoomTunes::mirror, Looms.IN_USE);
        change("mirror()", 23, LoomTunes::mirror, Looms.FULL);
    }

    // ---- promise 9: set

    void promise9LeastOfEachSetting() {
        for (int what = 0; what < 4; what++) {
            LoomTunes loom = new LoomTunes();
            due("set(" + what + ", least)", loom.set(what, LEAST[what]), FIRST[what]);
            due("count(20 + " + what + ")", loom.count(20 + what), LEAST[what]);
        }
    }

    void promise9GreatestOfEachSetting() {
        for (int what = 0; what < 4; what++) {
            LoomTunes loom = new LoomTunes();
            due("set(" + what + ", greatest)", loom.set(what, GREATEST[what]), FIRST[what]);
            due("count(20 + " + what + ")", loom.count(20 + what), GREATEST[what]);
        }
    }

    void promise9BelowTheLeastOfEachSetting() {
        for (int setting = 0; setting < 4; setting++) {
            int what = setting;
            errorInAll("set(" + what + ", least - 1)", INVALID, loom -> loom.set(what, LEAST[what] - 1));
            errorInAll("set(" + what + ", MIN)", INVALID, loom -> loom.set(what, MIN));
        }
    }

    void promise9AboveTheGreatestOfEachSetting() {
        for (int setting = 0; setting < 4; setting++) {
            int what = setting;
            errorInAll("set(" + what + ", greatest + 1)", INVALID, loom -> loom.set(what, GREATEST[what] + 1));
            errorInAll("set(" + what + ", MAX)", INVALID, loom -> loom.set(what, MAX));
        }
    }

    void promise9WhatBelowTheLeast() {
        errorInAll("set(-1, 4)", INVALID, loom -> loom.set(-1, 4));
        errorInAll("set(MIN, 4)", INVALID, loom -> loom.set(MIN, 4));
    }

    void promise9WhatAboveTheGreatest() {
        errorInAll("set(4, 4)", INVALID, loom -> loom.set(4, 4));
        errorInAll("set(20, 4)", INVALID, loom -> loom.set(20, 4));
        errorInAll("set(MAX, 4)", INVALID, loom -> loom.set(MAX, 4));
    }

    void promise9BothOutside() {
        errorInAll("set(-1, -1)", INVALID, loom -> loom.set(-1, -1));
        errorInAll("set(4, 29)", INVALID, loom -> loom.set(4, 29));
    }

    void promise9ReturnsWhatItWas() {
        LoomTunes loom = new LoomTunes();
        due("set(2, 0)", loom.set(2, 0), 3);
        due("set(2, 28)", loom.set(2, 28), 0);
        due("set(2, 1)", loom.set(2, 1), 28);
    }

    void promise9TheSameValueAgain() {
        for (int setting = 0; setting < 4; setting++) {
            int what = setting;
            change("set(" + what + ", first)", FIRST[what], loom -> loom.set(what, FIRST[what]), Looms.NEW);
        }
    }

    void promise9OtherSettingsStay() {
        for (int what = 0; what < 4; what++) {
            LoomTunes loom = new LoomTunes();
            loom.set(what, LEAST[what]);
            for (int other = 0; other < 4; other++) {
                due("count(20 + " + other + ")", loom.count(20 + other), other == what ? LEAST[what] : FIRST[other]);
            }
        }
    }

    void promise9CardsAndStampsStay() {
        LoomTunes loom = Looms.with(255, 255);
        loom.set(1, 1);
        loom.set(2, 0);
        cards("set", loom, 255, 255);
        stamps("set", loom, "-s");
    }

    void promise9IsAChange() {
        change("set(0, 8)", 3, loom -> loom.set(0, 8), Looms.IN_USE);
        change("set(3, 24)", 6, loom -> loom.set(3, 24), Looms.FULL);
    }
}
