import java.util.regex.Matcher;
import java.util.regex.Pattern;

/** The boundary cases of texts, their faults and their orders, each in a test of its own. */
public final class TextBoundaryTests extends Boundary {
    private static final int OF_FORM = 1;
    private static final int OF_CALL = 2;
    private static final Pattern ORDER =
        Pattern.compile("c(?=[0-7])0?1?2?3?4?5?6?7?;|[nk]\\d{1,2},\\d{1,2};|x\\d{1,2};|t;");

    public static void main(String[] args) {
        new TextBoundaryTests().run(22, 25);
    }

    private void fault(LoomTunes loom, String text, int place, int reason, int cause) {
        Looms.rewrite(loom, text);
        due("fault(0) of \"" + text + "\"", loom.fault(0), place);
        due("fault(1) of \"" + text + "\"", loom.fault(1), reason);
        due("fault(2) of \"" + text + "\"", loom.fault(2), cause);
    }

    private void noFault(LoomTunes loom, String text) {
        fault(loom, text, NONE, NONE, NONE);
    }

    /** The text breaks off at a character, alone and behind other orders that are possible. */
    private void breaksOff(String text, int at) {
        fault(new LoomTunes(), text, 0, OF_FORM, at);
        fault(new LoomTunes(), "c7;k0,0;" + text, 8, OF_FORM, at);
    }

    private void plays(LoomTunes loom, String text, int orders) {
        noFault(loom, text);
        due("play() of \"" + text + "\"", loom.play(), orders);
    }

    // ---- promise 22: type

    void promise22LeastCharacter() {
        due("type(32)", new LoomTunes().type(32), 1);
    }

    void promise22GreatestCharacter() {
        due("type(126)", new LoomTunes().type(126), 1);
    }

    void promise22EachCharacterBetween() {
        for (int character = 32; character <= 126; character++) {
            due("type(" + character + ")", new LoomTunes().type(character), 1);
        }
    }

    void promise22CharacterBelowTheLeast() {
        errorInAll("type(31)", INVALID, loom -> loom.type(31));
        errorInAll("type(0)", INVALID, loom -> loom.type(0));
        errorInAll("type(-1)", INVALID, loom -> loom.type(-1));
        errorInAll("type(MIN)", INVALID, loom -> loom.type(MIN));
    }

    void promise22CharacterAboveTheGreatest() {
        errorInAll("type(127)", INVALID, loom -> loom.type(127));
        errorInAll("type(65536 + 116)", INVALID, loom -> loom.type(65536 + 't'));
        errorInAll("type(MAX)", INVALID, loom -> loom.type(MAX));
    }

    void promise22TheLastCharacterThereIsRoomFor() {
        LoomTunes loom = Looms.text("t".repeat(59));
        due("type(116)", loom.type('t'), 60);
        due("count(10)", loom.count(10), 60);
    }

    void promise22OneCharacterMoreThanThereIsRoomFor() {
        error("type(116)", LIMIT, loom -> loom.type('t'), Looms.FULL);
        error("type(32)", LIMIT, loom -> loom.type(32), Looms.FULL);
        error("type(126)", LIMIT, loom -> loom.type(126), Looms.FULL);
    }

    void promise22InvalidGoesAheadOfTheLimit() {
        error("type(31)", INVALID, loom -> loom.type(31), Looms.FULL);
        error("type(127)", INVALID, loom -> loom.type(127), Looms.FULL);
    }

    void promise22ReturnsTheLength() {
        LoomTunes loom = new LoomTunes();
        for (int length = 1; length <= 60; length++) {
            due("type(116)", loom.type('t'), length);
        }
    }

    void promise22RoomAgainAfterClearText() {
        LoomTunes loom = Looms.FULL.make();
        loom.clearText();
        due("type(116)", loom.type('t'), 1);
    }

    void promise22IsNoChange() {
        LoomTunes loom = Looms.ONE_CARD.make();
        loom.type('t');
        due("count(9)", loom.count(9), 1);
        loom.undo();
        due("count(10)", loom.count(10), 1);
        due("type(116)", loom.type('t'), 2);
    }

    // ---- promise 23: clearText

    void promise23AnEmptyText() {
        due("clearText()", new LoomTunes().clearText(), 0);
        keeps("clearText()", LoomTunes::clearText, Looms.NEW);
        keeps("clearText()", LoomTunes::clearText, Looms.ONE_CARD);
    }

    void promise23OneCharacter() {
        LoomTunes loom = Looms.text("t");
        due("clearText()", loom.clearText(), 1);
        due("count(10)", loom.count(10), 0);
    }

    void promise23AFullText() {
        LoomTunes loom = Looms.FULL.make();
        due("clearText()", loom.clearText(), 60);
        due("count(10)", loom.count(10), 0);
        due("clearText() again", loom.clearText(), 0);
    }

    void promise23NothingIsLeftOfTheText() {
        LoomTunes loom = Looms.text("x12;");
        loom.clearText();
        due("fault(0)", loom.fault(0), NONE);
        fault(loom, "x", 0, OF_FORM, 1);
        fault(loom, "x1", 0, OF_FORM, 2);
    }

    void promise23ChangesTheTextAlone() {
        keeps("the same text again", loom -> Looms.rewrite(loom, "c01;n3,7;k3,2;x1;t;").count(10), Looms.IN_USE);
        keeps("the same text again", loom -> Looms.rewrite(loom, "t;".repeat(30)).count(10), Looms.FULL);
    }

    void promise23IsNoChange() {
        LoomTunes loom = Looms.ONE_CARD.make();
        loom.type('t');
        loom.clearText();
        due("count(9)", loom.count(9), 1);
        due("undo()", loom.undo(), 0);
        due("count(10)", loom.count(10), 0);
    }

    // ---- promise 24: fault, its argument

    void promise24WhatBelowTheLeast() {
        errorInAll("fault(-1)", INVALID, loom -> loom.fault(-1));
        errorInAll("fault(MIN)", INVALID, loom -> loom.fault(MIN));
    }

    void promise24WhatAboveTheGreatest() {
        errorInAll("fault(3)", INVALID, loom -> loom.fault(3));
        errorInAll("fault(MAX)", INVALID, loom -> loom.fault(MAX));
    }

    void promise24AnEmptyText() {
        for (int part = 0; part <= 2; part++) {
            int what = part;
            error("fault(" + what + ")", NONE, loom -> loom.fault(what), Looms.NEW, Looms.ONE_CARD);
        }
    }

    void promise24ATextWithoutAFault() {
        for (int part = 0; part <= 2; part++) {
            int what = part;
            error("fault(" + what + ")", NONE, loom -> loom.fault(what), Looms.IN_USE, Looms.FULL);
        }
    }

    void promise24InvalidGoesAheadOfNotFound() {
        error("fault(-1)", INVALID, loom -> loom.fault(-1), Looms.NEW, Looms.IN_USE);
        error("fault(3)", INVALID, loom -> loom.fault(3), Looms.NEW, Looms.IN_USE);
    }

    void promise24IsNoChange() {
        for (int part = 0; part <= 2; part++) {
            int what = part;
            keepsInAll("fault(" + what + ")", loom -> loom.fault(what));
        }
    }

    // ---- promise 24: the form of orders

    void promise24NoSuchOrder() {
        for (char sign = 32; sign <= 126; sign++) {
            if ("cnkxt".indexOf(sign) < 0) {
                breaksOff(sign + ";", 0);
            }
        }
    }

    void promise24TheSignAlone() {
        for (String sign : new String[] {"c", "n", "k", "x", "t"}) {
            breaksOff(sign, 1);
        }
    }

    void promise24TheSignWithItsEndAlone() {
        breaksOff("c;", 1);
        breaksOff("n;", 1);
        breaksOff("k;", 1);
        breaksOff("x;", 1);
        noFault(Looms.with(1, 2), "t;");
    }

    void promise24OneHoleAndAllHoles() {
        for (int hole = 0; hole < 8; hole++) {
            noFault(new LoomTunes(), "c" + hole + ";");
        }
        noFault(new LoomTunes(), "c01234567;");
        noFault(new LoomTunes(), "c07;");
    }

    void promise24HolesBeyondTheGreatest() {
        breaksOff("c8;", 1);
        breaksOff("c9;", 1);
        breaksOff("c78;", 2);
        breaksOff("c012345678;", 9);
        breaksOff("c/;", 1);
    }

    void promise24HolesThatDoNotRise() {
        breaksOff("c00;", 2);
        breaksOff("c77;", 2);
        breaksOff("c10;", 2);
        breaksOff("c76;", 2);
        breaksOff("c012345670;", 9);
        breaksOff("c012345677;", 9);
        breaksOff("c0132;", 4);
    }

    void promise24HolesThatTheTextEnds() {
        breaksOff("c0", 2);
        breaksOff("c0123456", 8);
        breaksOff("c01234567", 9);
    }

    void promise24NumbersOfOneAndTwoDigits() {
        noFault(new LoomTunes(), "n0,0;n00,00;n07,07;n7,47;n07,9;n7,09;");
        noFault(new LoomTunes(), "k0,0;k00,00;k07,03;k7,3;k07,3;k7,03;");
        noFault(new LoomTunes(), "c0;c1;x0;x00;");
        noFault(new LoomTunes(), "c0;c1;x01;x0;");
    }

    void promise24NumbersOfNoDigits() {
        breaksOff("n,0;", 1);
        breaksOff("n0,;", 3);
        breaksOff("n00,;", 4);
        breaksOff("k,0;", 1);
        breaksOff("k0,;", 3);
        breaksOff("x-1;", 1);
        breaksOff("x ;", 1);
    }

    void promise24NumbersOfThreeDigits() {
        breaksOff("n000,0;", 3);
        breaksOff("n0,000;", 5);
        breaksOff("n00,000;", 6);
        breaksOff("k000,0;", 3);
        breaksOff("k0,000;", 5);
        breaksOff("k00,000;", 6);
        breaksOff("x000;", 3);
        breaksOff("x100;", 3);
    }

    /** A sign at any place of an order, instead of the one there or ahead of it. */
    void promise24AnySignAtAnyPlace() {
        for (String order : new String[] {"c3;", "c25;", "n1,2;", "k01,02;", "x0;", "x00;", "t;"}) {
            for (int place = 0; place <= order.length(); place++) {
                for (char sign = 32; sign <= 126; sign++) {
                    asTheFormAsks(order.substring(0, place) + sign + order.substring(place));
                    asTheFormAsks(order.substring(0, place) + sign + order.substring(Math.min(place + 1, order.length())));
                }
            }
        }
    }

    /** Where the text breaks off, told by the longest of its beginnings that an order can begin with. */
    private void asTheFormAsks(String text) {
        Matcher whole = ORDER.matcher(text);
        if (!whole.lookingAt()) {
            int at = 0;
            while (at < text.length() && canBegin(text.substring(0, at + 1))) {
                at++;
            }
            fault(new LoomTunes(), text, 0, OF_FORM, at);
        } else if (whole.end() == text.length()) {
            LoomTunes loom = Looms.rewrite(Looms.counted(24), text);
            due("the form of \"" + text + "\": fault(1)", loom.fault(1) == OF_FORM, false);
        }
    }

    private static boolean canBegin(String text) {
        Matcher beginning = ORDER.matcher(text);
        return beginning.matches() || beginning.hitEnd();
    }

    void promise24SignsNextToTheDigits() {
        breaksOff("n/,0;", 1);
        breaksOff("n:,0;", 1);
        breaksOff("n0,/;", 3);
        breaksOff("n0,:;", 3);
        breaksOff("x0/;", 2);
        breaksOff("x0:;", 2);
    }

    void promise24NoComma() {
        breaksOff("n0;", 2);
        breaksOff("n00;", 3);
        breaksOff("n0.0;", 2);
        breaksOff("k0;", 2);
        breaksOff("k00;", 3);
        breaksOff("k0 0;", 2);
        breaksOff("x0,0;", 2);
        breaksOff("t,;", 1);
    }

    void promise24NoEnd() {
        breaksOff("c0 ;", 2);
        breaksOff("c0,1;", 2);
        breaksOff("n0,0,", 4);
        breaksOff("n0,00 ", 5);
        breaksOff("k0,0:", 4);
        breaksOff("x0t;", 2);
        breaksOff("t0;", 1);
        breaksOff("t1;", 1);
        breaksOff("tt;", 1);
    }

    void promise24TheTextEndsTooEarly() {
        breaksOff("n0", 2);
        breaksOff("n00", 3);
        breaksOff("n0,", 3);
        breaksOff("n0,0", 4);
        breaksOff("n00,00", 6);
        breaksOff("k0", 2);
        breaksOff("k0,", 3);
        breaksOff("k00,0", 5);
        breaksOff("x0", 2);
        breaksOff("x00", 3);
        breaksOff("t", 1);
    }

    void promise24AnEndTooMany() {
        breaksOff(";", 0);
        fault(new LoomTunes(), "c0;;", 3, OF_FORM, 0);
        fault(new LoomTunes(), "c0; ", 3, OF_FORM, 0);
        fault(new LoomTunes(), " c0;", 0, OF_FORM, 0);
    }

    // ---- promise 24: orders that are not possible

    void promise24ThreadAndNoteOutOfRange() {
        noFault(new LoomTunes(), "n7,47;n0,0;");
        fault(new LoomTunes(), "n8,0;", 0, OF_CALL, INVALID);
        fault(new LoomTunes(), "n99,0;", 0, OF_CALL, INVALID);
        fault(new LoomTunes(), "n0,48;", 0, OF_CALL, INVALID);
        fault(new LoomTunes(), "n0,99;", 0, OF_CALL, INVALID);
        fault(new LoomTunes(), "n8,48;", 0, OF_CALL, INVALID);
    }

    void promise24ThreadAndColourOutOfRange() {
        noFault(new LoomTunes(), "k7,3;k0,0;");
        fault(new LoomTunes(), "k8,0;", 0, OF_CALL, INVALID);
        fault(new LoomTunes(), "k99,0;", 0, OF_CALL, INVALID);
        fault(new LoomTunes(), "k0,4;", 0, OF_CALL, INVALID);
        fault(new LoomTunes(), "k0,99;", 0, OF_CALL, INVALID);
        fault(new LoomTunes(), "k8,4;", 0, OF_CALL, INVALID);
    }

    void promise24NoSuchCard() {
        fault(new LoomTunes(), "x0;", 0, OF_CALL, INVALID);
        noFault(Looms.counted(24), "x23;");
        fault(Looms.counted(24), "x24;", 0, OF_CALL, INVALID);
        fault(Looms.counted(24), "x99;", 0, OF_CALL, INVALID);
        fault(Looms.counted(24), "x23;x23;", 4, OF_CALL, INVALID);
    }

    void promise24TooFewCardsToTurn() {
        fault(new LoomTunes(), "t;", 0, OF_CALL, IMPOSSIBLE);
        fault(new LoomTunes(), "c0;t;", 3, OF_CALL, IMPOSSIBLE);
        noFault(new LoomTunes(), "c0;c1;t;");
        fault(new LoomTunes(), "c0;c1;x0;t;", 9, OF_CALL, IMPOSSIBLE);
    }

    void promise24TooManyCards() {
        noFault(Looms.counted(23), "c0;");
        fault(Looms.counted(23), "c0;c1;", 3, OF_CALL, LIMIT);
        fault(Looms.counted(24), "c0;", 0, OF_CALL, LIMIT);
        noFault(Looms.counted(24), "x0;c0;");
        fault(Looms.counted(24), "x0;c0;c0;", 6, OF_CALL, LIMIT);
    }

    void promise24ARefusedCardIsNoFault() {
        noFault(new LoomTunes(), "c012345;");
        noFault(new LoomTunes(), "c01234;");
        noFault(new LoomTunes(), "c0;c0;");
        fault(new LoomTunes(), "c0;c0;t;", 6, OF_CALL, IMPOSSIBLE);
        fault(new LoomTunes(), "c0;c0;c0;t;", 9, OF_CALL, IMPOSSIBLE);
        noFault(new LoomTunes(), "c0;c0;c0;c0;t;");
    }

    void promise24OrdersAheadAreDone() {
        fault(new LoomTunes(), "x0;c0;", 0, OF_CALL, INVALID);
        noFault(new LoomTunes(), "c0;x0;");
        noFault(Looms.notes(Looms.with(2), 12, 13), "c1;n1,14;");
        fault(new LoomTunes(), "c0;n1,12;n0,0;x0;x0;", 17, OF_CALL, INVALID);
    }

    // ---- promise 24: which fault

    void promise24TheFirstOfSeveralFaults() {
        fault(new LoomTunes(), "x0;c;", 0, OF_CALL, INVALID);
        fault(new LoomTunes(), "c;x0;", 0, OF_FORM, 1);
        fault(new LoomTunes(), "t;x0;", 0, OF_CALL, IMPOSSIBLE);
        fault(new LoomTunes(), "c0;t;n8,8;", 3, OF_CALL, IMPOSSIBLE);
    }

    void promise24TheFormGoesAheadOfTheCall() {
        fault(new LoomTunes(), "x0", 0, OF_FORM, 2);
        fault(new LoomTunes(), "t", 0, OF_FORM, 1);
        fault(new LoomTunes(), "n99,99", 0, OF_FORM, 6);
        fault(Looms.counted(24), "c0", 0, OF_FORM, 2);
    }

    void promise24TheFirstAndTheLastPosition() {
        fault(Looms.with(1, 2), "~" + "t;".repeat(29), 0, OF_FORM, 0);
        fault(Looms.with(1, 2), "t;".repeat(29) + "t~", 58, OF_FORM, 1);
        fault(Looms.with(1, 2), "t;".repeat(29) + "~", 58, OF_FORM, 0);
        fault(Looms.with(1, 2), "c4;" + "t;".repeat(28) + "t", 59, OF_FORM, 1);
        fault(Looms.with(1, 2), "c4;" + "t;".repeat(27) + "x3;", 57, OF_CALL, INVALID);
    }

    void promise24AFullTextWithoutAFault() {
        noFault(Looms.with(1, 2), "t;".repeat(30));
    }

    void promise24AsTheRegisterIsNow() {
        LoomTunes loom = Looms.text("t;");
        due("fault(2) of none", loom.fault(2), IMPOSSIBLE);
        loom.bring(1);
        due("fault(2) of one", loom.fault(2), IMPOSSIBLE);
        loom.bring(2);
        due("fault(2) of two", loom.fault(2), NONE);
        loom.undo();
        due("fault(2) of one again", loom.fault(2), IMPOSSIBLE);
    }

    // ---- promise 25: play

    void promise25AnEmptyText() {
        change("play()", 0, LoomTunes::play, Looms.NEW);
        change("play()", 0, LoomTunes::play, Looms.ONE_CARD);
    }

    void promise25OneOrder() {
        LoomTunes loom = new LoomTunes();
        plays(loom, "c0;", 1);
        cards("c0;", loom, 1);
        due("count(9)", loom.count(9), 1);
    }

    void promise25TheMostOrders() {
        LoomTunes loom = Looms.with(1, 2);
        plays(loom, "t;".repeat(30), 30);
        cards("turned 30 times", loom, 1, 2);
        plays(loom, "t;".repeat(29), 29);
        cards("turned 29 times", loom, 2, 1);
    }

    void promise25AFaultOfForm() {
        LoomTunes loom = Looms.text("c0;c1");
        due("play()", loom.play(), IMPOSSIBLE);
        due("what there is", Seen.of(loom), Seen.of(Looms.text("c0;c1")));
    }

    void promise25AFaultOfCall() {
        error("play()", IMPOSSIBLE, LoomTunes::play, Looms.FAULTY_TEXT);
    }

    void promise25AFaultInTheLastOrder() {
        LoomTunes loom = Looms.text("c0;n0,0;k0,1;c0;x1;");
        due("play()", loom.play(), IMPOSSIBLE);
        due("what there is", Seen.of(loom), Seen.of(Looms.text("c0;n0,0;k0,1;c0;x1;")));
    }

    void promise25TheTextStays() {
        LoomTunes loom = new LoomTunes();
        plays(loom, "c0;c1;", 2);
        due("count(10)", loom.count(10), 6);
        due("play() again", loom.play(), 2);
        cards("played twice", loom, 1, 2, 1, 2);
        due("count(10) again", loom.count(10), 6);
    }

    void promise25IsOneChange() {
        LoomTunes loom = new LoomTunes();
        plays(loom, "c0;c1;c2;n0,1;k0,1;t;x1;", 7);
        due("count(9)", loom.count(9), 1);
        due("undo()", loom.undo(), 0);
        due("what there is", Seen.butText(loom), Seen.butText(new LoomTunes()));
        change("play()", 5, LoomTunes::play, Looms.IN_USE);
        change("play()", 30, LoomTunes::play, Looms.FULL);
    }

    void promise25AFullHistory() {
        LoomTunes loom = new LoomTunes();
        Looms.notes(loom, 1, 2, 3, 4);
        plays(loom, "n4,5;n5,6;", 2);
        due("count(9)", loom.count(9), 4);
        for (int left = 3; left >= 0; left--) {
            due("undo()", loom.undo(), left);
        }
        due("threadOf(0, 0)", loom.threadOf(0, 0), 1);
        due("threadOf(1, 0)", loom.threadOf(1, 0), 14);
    }

    void promise25DoesEachOrder() {
        LoomTunes loom = new LoomTunes();
        plays(loom, "c0;c07;c2;n7,47;n0,00;k7,0;k00,03;x1;t;", 9);
        cards("all", loom, 4, 1);
        due("threadOf(7, 0)", loom.threadOf(7, 0), 47);
        due("threadOf(0, 0)", loom.threadOf(0, 0), 0);
        due("threadOf(7, 1)", loom.threadOf(7, 1), 0);
        due("threadOf(0, 1)", loom.threadOf(0, 1), 3);
    }

    void promise25EachHole() {
        for (int holes = 1; holes <= 255; holes++) {
            StringBuilder order = new StringBuilder("c");
            for (int hole = 0; hole < 8; hole++) {
                order.append((holes >> hole & 1) == 1 ? "" + hole : "");
            }
            LoomTunes loom = Looms.lenient();
            plays(loom, order.append(';').toString(), 1);
            cards(order.toString(), loom, holes);
        }
    }

    void promise25EachNoteAndColour() {
        for (int note = 0; note <= 47; note++) {
            LoomTunes loom = new LoomTunes();
            plays(loom, "n" + note % 8 + "," + note + ";", 1);
            due("threadOf(" + note % 8 + ", 0)", loom.threadOf(note % 8, 0), note);
        }
        for (int colour = 0; colour <= 3; colour++) {
            LoomTunes loom = new LoomTunes();
            plays(loom, "k5,0" + colour + ";", 1);
            due("threadOf(5, 1)", loom.threadOf(5, 1), colour);
        }
    }

    void promise25EachCard() {
        for (int card = 0; card <= 23; card++) {
            LoomTunes loom = Looms.counted(24);
            plays(loom, "x" + card + ";", 1);
            due("cardOf(22, 0)", loom.cardOf(22, 0), card == 23 ? 23 : 24);
            due("cardOf(0, 0)", loom.cardOf(0, 0), card == 0 ? 2 : 1);
            due("count(0)", loom.count(0), 23);
        }
    }

    void promise25ARefusedCardIsAnOrderThatIsDone() {
        LoomTunes loom = new LoomTunes();
        plays(loom, "c0;c0;c0;", 3);
        cards("refused twice", loom, 1);
        due("count(5)", loom.count(5), 2);
        due("count(7)", loom.count(7), 2);
        due("bring(1)", loom.bring(1), 13);
    }

    void promise25TheThirdTimeInOneText() {
        LoomTunes loom = new LoomTunes();
        plays(loom, "c0;c0;c0;c0;", 4);
        cards("stamped", loom, 1, 1);
        stamps("stamped", loom, "-s");
        due("count(6)", loom.count(6), NONE);
    }

    void promise25TheThirdTimeBehindCallsOfBring() {
        LoomTunes loom = Looms.with(1);
        loom.bring(1);
        loom.bring(1);
        plays(loom, "c0;", 1);
        stamps("stamped", loom, "-s");
    }

    void promise25FillsTheRegister() {
        LoomTunes loom = Looms.counted(4);
        plays(loom, "c0;c1;".repeat(10), 20);
        due("count(0)", loom.count(0), 24);
        due("play() again", loom.play(), IMPOSSIBLE);
        due("fault(2)", loom.fault(2), LIMIT);
        due("count(0) again", loom.count(0), 24);
    }
}
