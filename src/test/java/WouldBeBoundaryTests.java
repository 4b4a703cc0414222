import java.util.Arrays;

/** The boundary cases of what would be and of what is counted, each in a test of its own. */
public final class WouldBeBoundaryTests extends Boundary {
    public static void main(String[] args) {
        new WouldBeBoundaryTests().run(15, 20);
    }

    private static LoomTunes strict(int holes, int clashes, int... cards) {
        LoomTunes loom = new LoomTunes();
        loom.set(1, holes);
        loom.set(2, clashes);
        for (int card : cards) {
            loom.bring(card);
        }
        return loom;
    }

    private void best(String when, LoomTunes loom, int holes, int clashes, int common) {
        due(when + ": best(0)", loom.best(0), holes);
        due(when + ": best(1)", loom.best(1), clashes);
        due(when + ": best(2)", loom.best(2), common);
    }

    private void key(String when, LoomTunes loom, int key, int fits) {
        due(when + ": key(0)", loom.key(0), key);
        due(when + ": key(1)", loom.key(1), fits);
    }

    private void like(String when, LoomTunes loom, int turned, int mirrored, int both) {
        due(when + ": like(0)", loom.like(0), turned);
        due(when + ": like(1)", loom.like(1), mirrored);
        due(when + ": like(2)", loom.like(2), both);
    }

    private void mean(LoomTunes loom, float rows, float tones) {
        due("mean() of " + rows + " in " + tones, loom.mean(), Float.floatToIntBits(rows / tones));
    }

    // ---- promise 15: would

    void promise15AsBringReturnsForEachCard() {
        for (Looms object : Looms.values()) {
            for (int holes = -2; holes <= 257; holes++) {
                due("would(" + holes + ") in " + object, object.make().would(holes), object.make().bring(holes));
            }
        }
    }

    void promise15LeastHoles() {
        due("would(0)", new LoomTunes().would(0), 0);
    }

    void promise15GreatestHoles() {
        due("would(255)", Looms.lenient().would(255), 0);
    }

    void promise15HolesBelowTheLeast() {
        errorInAll("would(-1)", INVALID, loom -> loom.would(-1));
        errorInAll("would(MIN)", INVALID, loom -> loom.would(MIN));
    }

    void promise15HolesAboveTheGreatest() {
        errorInAll("would(256)", INVALID, loom -> loom.would(256));
        errorInAll("would(MAX)", INVALID, loom -> loom.would(MAX));
    }

    void promise15OneCardMoreThanThereIsRoomFor() {
        error("would(99)", LIMIT, loom -> loom.would(99), Looms.FULL);
        due("would(99) of 23", Looms.counted(23).would(99), 0);
    }

    void promise15InvalidGoesAheadOfTheLimit() {
        error("would(-1)", INVALID, loom -> loom.would(-1), Looms.FULL);
        error("would(256)", INVALID, loom -> loom.would(256), Looms.FULL);
    }

    void promise15TheLimitGoesAheadOfEachReason() {
        LoomTunes loom = Looms.counted(24);
        due("would(24): like the last one", loom.would(24), LIMIT);
        loom.set(2, 0);
        due("would(3): a clash", loom.would(3), LIMIT);
        loom.set(1, 1);
        due("would(5): two holes", loom.would(5), LIMIT);
    }

    void promise15TheFirstTheSecondAndTheThirdTime() {
        LoomTunes loom = Looms.with(3);
        due("the first time", loom.would(3), 3);
        loom.bring(3);
        due("the second time", loom.would(3), 3);
        loom.bring(3);
        due("the third time", loom.would(3), 13);
        loom.set(2, 0);
        due("the third time, too many clashes", loom.would(3), 12);
        loom.set(1, 1);
        due("the third time, too many holes", loom.would(3), 11);
        loom.bring(3);
        due("once it is taken", loom.would(3), 1);
    }

    void promise15AsOftenAsItIsAskedItIsNotRemembered() {
        LoomTunes loom = Looms.with(3);
        for (int time = 0; time < 5; time++) {
            due("would(3)", loom.would(3), 3);
        }
        due("count(5)", loom.count(5), 0);
        due("count(7)", loom.count(7), 0);
    }

    void promise15IsNoChange() {
        for (int holes : new int[] {0, 5, 6, 9, 63, 31, 255}) {
            keepsInAll("would(" + holes + ")", loom -> loom.would(holes));
        }
    }

    // ---- promise 16: best

    void promise16WhatBelowTheLeast() {
        errorInAll("best(-1)", INVALID, loom -> loom.best(-1));
        errorInAll("best(MIN)", INVALID, loom -> loom.best(MIN));
    }

    void promise16WhatAboveTheGreatest() {
        errorInAll("best(3)", INVALID, loom -> loom.best(3));
        errorInAll("best(MAX)", INVALID, loom -> loom.best(MAX));
    }

    void promise16NoRoom() {
        error("best(0)", LIMIT, loom -> loom.best(0), Looms.FULL);
        error("best(1)", LIMIT, loom -> loom.best(1), Looms.FULL);
        error("best(2)", LIMIT, loom -> loom.best(2), Looms.FULL);
    }

    void promise16InvalidGoesAheadOfTheLimit() {
        error("best(-1)", INVALID, loom -> loom.best(-1), Looms.FULL);
        error("best(3)", INVALID, loom -> loom.best(3), Looms.FULL);
    }

    void promise16RoomForOneCard() {
        best("of 23", Looms.counted(23), 0b10101, 0, 3);
    }

    void promise16NoCards() {
        best("of none", new LoomTunes(), 1, 0, 0);
        best("of none, all allowed", Looms.lenient(), 1, 0, 0);
    }

    void promise16ACardWithoutHolesIsNone() {
        best("behind one", Looms.with(255, 0), 1, 0, 0);
        LoomTunes loom = Looms.notes(strict(1, 0, 0), 1, 1, 1, 1, 1, 1, 1, 1);
        best("behind one, all the same note", loom, 1, 0, 0);
    }

    void promise16TheLastCardIsNone() {
        best("one hole", strict(1, 0, 1), 2, 0, 0);
        best("the greatest hole", strict(1, 0, 128), 1, 0, 0);
    }

    void promise16ACardThatWouldBeStampedIsNone() {
        LoomTunes loom = strict(1, 0, 1, 1, 1);
        due("would(1)", loom.would(1), 13);
        best("stamped", loom, 2, 0, 0);
        loom = strict(2, 0, 0b100, 0b10101, 0b10101);
        due("would(21)", loom.would(0b10101), 11);
        best("stamped", loom, 0b101, 0, 1);
    }

    void promise16ACardWithTooManyHolesIsNone() {
        LoomTunes loom = Looms.with(0b1010101);
        best("three of four", loom, 0b10101, 0, 3);
        loom.set(1, 2);
        best("two of four", loom, 0b101, 0, 2);
        loom.set(1, 1);
        best("one of four", loom, 1, 0, 1);
    }

    void promise16FewerClashesGoAheadOfMoreHolesInCommon() {
        best("one of two", Looms.with(3), 1, 0, 1);
        best("four of eight", Looms.with(255), 0b1010101, 0, 4);
    }

    void promise16MoreHolesInCommonGoAheadOfTheLeastNumber() {
        best("the greatest hole", Looms.with(128), 0b10000010, 0, 1);
        best("two of the greatest holes", Looms.with(0b10100001), 0b10100000, 0, 2);
    }

    void promise16OfSeveralTheLeastNumber() {
        best("of two holes each", Looms.with(0b1100), 0b100, 0, 1);
        best("of all that have none in common", strict(1, 0, 1), 2, 0, 0);
    }

    void promise16TheMostHolesInCommon() {
        LoomTunes loom = Looms.notes(Looms.with(127), 5, 5, 5, 5, 5, 5, 5, 5);
        best("seven", loom, 255, 0, 7);
    }

    void promise16StrictestSettingsLeaveOne() {
        for (int hole = 0; hole < 8; hole++) {
            best("behind hole " + hole, strict(1, 0, 1 << hole), hole == 0 ? 2 : 1, 0, 0);
        }
    }

    void promise16IsNoChange() {
        for (int part = 0; part <= 2; part++) {
            int what = part;
            keepsInAll("best(" + what + ")", loom -> loom.best(what));
        }
    }

    // ---- promise 17: key

    void promise17WhatBelowTheLeast() {
        errorInAll("key(-1)", INVALID, loom -> loom.key(-1));
        errorInAll("key(MIN)", INVALID, loom -> loom.key(MIN));
    }

    void promise17WhatAboveTheGreatest() {
        errorInAll("key(2)", INVALID, loom -> loom.key(2));
        errorInAll("key(MAX)", INVALID, loom -> loom.key(MAX));
    }

    void promise17NoTones() {
        error("key(0)", NONE, loom -> loom.key(0), Looms.NEW);
        error("key(1)", NONE, loom -> loom.key(1), Looms.NEW);
        key("without holes", Looms.with(0, 0), NONE, NONE);
    }

    void promise17InvalidGoesAheadOfNotFound() {
        error("key(-1)", INVALID, loom -> loom.key(-1), Looms.NEW);
        error("key(2)", INVALID, loom -> loom.key(2), Looms.NEW);
    }

    void promise17OneTone() {
        int[] lowest = {0, 1, 0, 1, 0, 0, 1, 0, 1, 0, 1, 0};
        for (int note = 0; note < 48; note++) {
            key("note " + note, Looms.notes(Looms.with(1), note), lowest[note % 12], 1);
        }
    }

    void promise17EachKeyFromTheLeastToTheGreatest() {
        int[] steps = {0, 2, 4, 5, 7, 9, 11};
        for (int key = 0; key < 12; key++) {
            LoomTunes loom = Looms.with(127);
            for (int thread = 0; thread < 7; thread++) {
                loom.note(thread, (key + steps[thread]) % 12 + 12 * (thread % 4));
            }
            key("key " + key, loom, key, 7);
        }
    }

    void promise17OfSeveralTheLowest() {
        key("eight notes in a row", Looms.notes(Looms.with(255), 0, 1, 2, 3, 4, 5, 6, 7), 0, 5);
        key("another eight", Looms.notes(Looms.with(255), 6, 7, 8, 9, 10, 11, 12, 13), 1, 5);
    }

    void promise17TonesAreCountedNotRows() {
        LoomTunes loom = Looms.notes(Looms.with(3, 3, 3, 3, 0, 2, 0, 2), 0, 1);
        key("one of note 0, three of note 1", loom, 1, 4);
        loom = Looms.notes(Looms.with(3, 3, 3, 3, 0, 2), 2, 1);
        key("one of note 2, two of note 1", loom, 2, 3);
    }

    void promise17TheMostTones() {
        LoomTunes loom = Looms.lenient();
        for (int card = 0; card < 24; card++) {
            loom.bring(card % 2 == 0 ? 255 : 0);
        }
        key("96", Looms.notes(loom, 47, 47, 47, 47, 47, 47, 47, 47), 0, 96);
    }

    void promise17IsNoChange() {
        keepsInAll("key(0)", loom -> loom.key(0));
        keepsInAll("key(1)", loom -> loom.key(1));
    }

    // ---- promise 18: like

    void promise18WhatBelowTheLeast() {
        errorInAll("like(-1)", INVALID, loom -> loom.like(-1));
        errorInAll("like(MIN)", INVALID, loom -> loom.like(MIN));
    }

    void promise18WhatAboveTheGreatest() {
        errorInAll("like(3)", INVALID, loom -> loom.like(3));
        errorInAll("like(MAX)", INVALID, loom -> loom.like(MAX));
    }

    void promise18NoCards() {
        like("none", new LoomTunes(), 1, 1, 1);
    }

    void promise18OneCard() {
        like("hole 0", Looms.with(1), 1, 0, 0);
        like("no hole", Looms.with(0), 1, 1, 1);
        like("all holes", Looms.with(255), 1, 1, 1);
        for (int hole = 0; hole < 4; hole++) {
            like("holes " + hole + " and its image", Looms.with(1 << hole | 128 >> hole), 1, 1, 1);
        }
    }

    void promise18TwoCards() {
        like("another one", Looms.with(24, 129), 0, 1, 0);
        like("the image", Looms.with(1, 128), 0, 0, 1);
        like("the same", Looms.with(1, 1), 1, 0, 0);
    }

    void promise18TheCardInTheMiddle() {
        like("of the same ones", Looms.with(1, 7, 1), 1, 0, 0);
        like("of images", Looms.with(1, 7, 128), 0, 0, 0);
        like("of images, its own image", Looms.with(1, 24, 128), 0, 0, 1);
    }

    void promise18OnlyTheFirstAndTheLastDiffer() {
        like("turned", Looms.with(1, 2, 4, 2, 8), 0, 0, 0);
        like("turned, even", Looms.with(1, 2, 2, 4), 0, 0, 0);
        like("mirrored, the last", Looms.with(24, 129, 1), 0, 0, 0);
        like("mirrored, the first", Looms.with(1, 129, 24), 0, 0, 0);
    }

    void promise18AllCards() {
        like("the same", Looms.rows(24, 24), 1, 1, 1);
        like("others", Looms.counted(24), 0, 0, 0);
    }

    void promise18IsNoChange() {
        for (int part = 0; part <= 2; part++) {
            int what = part;
            keepsInAll("like(" + what + ")", loom -> loom.like(what));
        }
    }

    // ---- promise 19: mean

    void promise19NoTones() {
        error("mean()", NONE, LoomTunes::mean, Looms.NEW);
        due("mean() without holes", Looms.with(0, 0).mean(), NONE);
    }

    void promise19TheLeastMean() {
        mean(Looms.with(1), 1, 1);
        mean(Looms.with(255, 0, 255), 16, 16);
    }

    void promise19TheGreatestMean() {
        mean(Looms.rows(1, 24), 24, 1);
        mean(Looms.rows(255, 24), 192, 8);
    }

    void promise19OneRowMoreForOneTone() {
        for (int thread = 0; thread < 8; thread++) {
            mean(Looms.with(255, (1 << thread) - 1), 8 + thread, 8);
        }
    }

    void promise19MeansThatAFloatRounds() {
        mean(Looms.with(7, 1), 4, 3);
        mean(Looms.with(7, 3), 5, 3);
        mean(Looms.with(31, 1), 6, 5);
        mean(Looms.with(127, 127, 1), 15, 7);
    }

    void promise19EachPowerOfTwoAndItsNeighbours() {
        for (int rows : new int[] {1, 2, 3, 4, 5, 7, 8, 9, 15, 16, 17, 23, 24}) {
            mean(Looms.rows(1, rows), rows, 1);
        }
    }

    void promise19JustBelowAPowerOfTwo() {
        int[] cards = new int[24];
        Arrays.fill(cards, 0, 15, 255);
        cards[15] = 127;
        mean(Looms.with(cards), 127, 8);
    }

    void promise19IsNoChange() {
        keepsInAll("mean()", LoomTunes::mean);
    }

    // ---- promise 20: count

    void promise20WhatBelowTheLeast() {
        errorInAll("count(-1)", INVALID, loom -> loom.count(-1));
        errorInAll("count(MIN)", INVALID, loom -> loom.count(MIN));
    }

    void promise20WhatBetweenTenAndTwenty() {
        for (int part = 11; part <= 19; part++) {
            int what = part;
            errorInAll("count(" + what + ")", INVALID, loom -> loom.count(what));
        }
    }

    void promise20WhatAboveTheGreatest() {
        errorInAll("count(24)", INVALID, loom -> loom.count(24));
        errorInAll("count(MAX)", INVALID, loom -> loom.count(MAX));
    }

    void promise20CardsFromNoneToAll() {
        for (int cards = 0; cards <= 24; cards++) {
            due("count(0)", Looms.counted(cards).count(0), cards);
        }
    }

    void promise20StampsFromNoneToTheMost() {
        due("none", Looms.counted(24).count(1), 0);
        due("one", Looms.with(1, 1).count(1), 1);
        due("all but the first", Looms.rows(1, 24).count(1), 23);
        LoomTunes loom = Looms.rows(1, 24);
        loom.tear(0);
        due("all", loom.count(1), 23);
    }

    void promise20TonesFromNoneToTheMost() {
        due("none", Looms.with(0, 0).count(2), 0);
        due("one", Looms.rows(1, 24).count(2), 1);
        int[] cards = new int[24];
        for (int card = 0; card < 24; card += 2) {
            cards[card] = 255;
        }
        due("the most", Looms.with(cards).count(2), 96);
    }

    void promise20ClashesFromNoneToTheMost() {
        due("none", Looms.rows(1, 24).count(3), 0);
        due("one", Looms.with(0, 1, 2, 3).count(3), 1);
        LoomTunes loom = Looms.notes(Looms.rows(255, 24), 0, 12, 24, 1, 13, 25, 2, 14);
        due("the most", loom.count(3), 24 * 21);
    }

    void promise20LongFloatsFromNoneToTheMost() {
        due("none", new LoomTunes().count(4), 0);
        LoomTunes loom = Looms.rows(1, 7);
        due("7 rows of 6", loom.count(4), 8);
        loom.set(3, 7);
        due("7 rows of 7", loom.count(4), 0);
        int[] cards = new int[24];
        for (int card = 0; card < 24; card++) {
            cards[card] = card % 4 < 2 ? 255 : 0;
        }
        loom = Looms.with(cards);
        loom.set(3, 1);
        due("the most", loom.count(4), 96);
    }

    void promise20RefusedSoFar() {
        LoomTunes loom = Looms.with(1, 1, 1);
        due("two for each stamp", loom.count(5), 4);
        loom.bring(2);
        due("one that is taken", loom.count(5), 4);
        loom.bring(2);
        due("one that is refused", loom.count(5), 5);
        loom.undo();
        due("undone", loom.count(5), 4);
    }

    void promise20NoCardIsRemembered() {
        error("count(6)", NONE, loom -> loom.count(6), Looms.NEW, Looms.ONE_CARD, Looms.FULL);
    }

    void promise20NoCardIsRememberedOrOneIs() {
        LoomTunes loom = Looms.with(0);
        due("none", loom.count(6), NONE);
        due("none", loom.count(7), 0);
        loom.bring(0);
        due("one without holes", loom.count(6), 0);
        due("one without holes", loom.count(7), 1);
        loom.bring(0);
        due("twice", loom.count(6), 0);
        due("twice", loom.count(7), 2);
        loom.bring(0);
        due("taken", loom.count(6), NONE);
        due("taken", loom.count(7), 0);
        loom.set(1, 1);
        loom.bring(255);
        due("one with all holes", loom.count(6), 255);
    }

    void promise20BarsFromNoneToTheMost() {
        for (int rows = 2; rows <= 8; rows++) {
            for (int cards = 0; cards <= 24; cards++) {
                LoomTunes loom = Looms.counted(cards);
                loom.set(0, rows);
                due(cards + " rows, bars of " + rows, loom.count(8), cards / rows + (cards % rows > 0 ? 1 : 0));
            }
        }
    }

    void promise20StatesFromNoneToTheMost() {
        LoomTunes loom = new LoomTunes();
        for (int changes = 0; changes <= 6; changes++) {
            due("after " + changes, loom.count(9), Math.min(4, changes));
            loom.note(0, changes);
        }
    }

    void promise20CharactersFromNoneToTheMost() {
        LoomTunes loom = new LoomTunes();
        for (int length = 0; length <= 60; length++) {
            due("typed " + length, loom.count(10), length);
            loom.type('t');
        }
        due("typed one more", loom.count(10), 60);
    }

    void promise20SettingsFromTheLeastToTheGreatest() {
        int[] least = {2, 1, 0, 1};
        int[] greatest = {8, 8, 28, 24};
        for (int what = 0; what < 4; what++) {
            LoomTunes loom = new LoomTunes();
            for (int value = least[what]; value <= greatest[what]; value++) {
                loom.set(what, value);
                due("count(20 + " + what + ")", loom.count(20 + what), value);
            }
        }
    }

    void promise20IsNoChange() {
        for (int part = 0; part <= 23; part++) {
            int what = part;
            keepsInAll("count(" + what + ")", loom -> loom.count(what));
        }
    }
}
