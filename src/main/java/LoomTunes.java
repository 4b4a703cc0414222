/** A register of a loom that is played. What the calls promise stands in ../shared/DOC.md. */
public final class LoomTunes {
    public static final int INVALID_ARGUMENT = -1000001;
    public static final int NOT_POSSIBLE = -1000002;
    public static final int LIMIT_REACHED = -1000003;
    public static final int NOT_FOUND = -1000004;

    private static final int THREADS = 8;
    private static final int NOTES = 48;
    private static final int COLOURS = 4;
    private static final int OCTAVE = 12;
    private static final int MOST_CARDS = 24;
    private static final int MOST_BARS = 12;
    private static final int MOST_STATES = 4;
    private static final int MOST_SIGNS = 60;

    private static final int ALL_HOLES = 255;
    /** Stands in a card beside its holes. */
    private static final int STAMP = 256;
    private static final int NO_CARD = -1;

    private static final int BAR_ROWS = 0;
    private static final int HOLES_ALLOWED = 1;
    private static final int CLASHES_ALLOWED = 2;
    private static final int FLOAT_ALLOWED = 3;
    private static final int[] SETTING_LEAST = {2, 1, 0, 1};
    private static final int[] SETTING_MOST = {8, 8, 28, 24};

    /** The bits 1, 2, 6, 10 and 11. */
    private static final int CLASHING_STEPS = 3142;
    /** The bits 0, 2, 4, 5, 7, 9 and 11. */
    private static final int KEY_STEPS = 2741;

    private final Register now;
    private final Register trial;
    private final History history;
    private final Rows rows;
    private final Tones tones;
    private final Cloth cloth;
    private final Script script;

    public LoomTunes() {
        now = new Register();
        trial = new Register();
        history = new History();
        rows = new Rows(now);
        tones = new Tones(now);
        cloth = new Cloth(now);
        script = new Script();
    }

    // ---- threads

    public int note(int thread, int note) {
        trial.copyFrom(now);
        return settle(trial.tune(thread, note));
    }

    public int colour(int thread, int colour) {
        trial.copyFrom(now);
        return settle(trial.dye(thread, colour));
    }

    // ---- cards

    public int bring(int holes) {
        trial.copyFrom(now);
        return settle(trial.offer(holes));
    }

    public int tear(int card) {
        trial.copyFrom(now);
        return settle(trial.tearOut(card));
    }

    public int swap(int one, int other) {
        trial.copyFrom(now);
        return settle(trial.exchange(one, other));
    }

    public int turn() {
        trial.copyFrom(now);
        return settle(trial.reverse());
    }

    public int mirror() {
        trial.copyFrom(now);
        return settle(trial.flip());
    }

    public int set(int what, int value) {
        trial.copyFrom(now);
        return settle(trial.adjust(what, value));
    }

    // ---- what there is

    public int cardOf(int card, int what) {
        if (!now.hasCard(card)) {
            return INVALID_ARGUMENT;
        }
        int holes = now.holesAt(card);
        switch (what) {
            case 0:
                return holes;
            case 1:
                return Integer.bitCount(holes);
            case 2:
                return now.stampsAt(card);
            case 3:
                return now.clashesOf(holes);
            case 4:
                return rows.noteSet(card);
            case 5:
                return rows.highest(card);
            case 6:
                return rows.lowest(card);
            case 7:
                return tones.beginningAt(card);
            case 8:
                return rows.barAt(card);
            case 9:
                return rows.aboveByColours(card);
            default:
                return INVALID_ARGUMENT;
        }
    }

    public int threadOf(int thread, int what) {
        if (thread < 0 || thread >= THREADS) {
            return INVALID_ARGUMENT;
        }
        switch (what) {
            case 0:
                return now.noteAt(thread);
            case 1:
                return now.colourAt(thread);
            case 2:
                return tones.ofThread(thread);
            case 3:
                return rows.soundingRows(thread);
            case 4:
                return cloth.longestFloat(thread);
            case 5:
                return cloth.longFloats(thread);
            default:
                return INVALID_ARGUMENT;
        }
    }

    public int toneOf(int tone, int what) {
        if (tone < 0 || what < 0 || what > 4) {
            return INVALID_ARGUMENT;
        }
        int place = tones.placeOf(tone);
        if (place < 0) {
            return NOT_FOUND;
        }
        int row = place / THREADS;
        int thread = place % THREADS;
        switch (what) {
            case 0:
                return thread;
            case 1:
                return row;
            case 2:
                return tones.lengthFrom(row, thread);
            case 3:
                return now.noteAt(thread);
            default:
                return rows.barAt(row);
        }
    }

    public int barOf(int bar, int what) {
        if (bar < 0 || bar >= MOST_BARS || what < 0 || what > 3) {
            return INVALID_ARGUMENT;
        }
        int sum = 0;
        int notes = 0;
        for (int row = 0; row < now.size; row++) {
            if (rows.barAt(row) == bar) {
                sum += partOfBar(row, what);
                notes |= rows.noteSet(row);
            }
        }
        return what == 3 ? notes : sum;
    }

    private int partOfBar(int row, int what) {
        switch (what) {
            case 0:
                return 1;
            case 1:
                return tones.beginningAt(row);
            default:
                return now.clashesOf(now.holesAt(row));
        }
    }

    public int alike(int card) {
        if (!now.hasCard(card)) {
            return INVALID_ARGUMENT;
        }
        for (int row = card - 1; row >= 0; row--) {
            if (rows.soundTheSame(row, card)) {
                return row;
            }
        }
        return NOT_FOUND;
    }

    // ---- what would be

    public int would(int holes) {
        return now.answerTo(holes);
    }

    public int best(int what) {
        if (what < 0 || what > 2) {
            return INVALID_ARGUMENT;
        }
        if (now.isFull()) {
            return LIMIT_REACHED;
        }
        int holes = now.bestCard();
        if (holes == NO_CARD) {
            return NOT_FOUND;
        }
        return what == 0 ? holes : what == 1 ? now.clashesOf(holes) : now.inCommonWithLast(holes);
    }

    public int key(int what) {
        if (what < 0 || what > 1) {
            return INVALID_ARGUMENT;
        }
        if (tones.inAll() == 0) {
            return NOT_FOUND;
        }
        int bestKey = 0;
        int bestFit = tones.inKey(0);
        for (int key = 1; key < OCTAVE; key++) {
            int fit = tones.inKey(key);
            if (fit > bestFit) {
                bestKey = key;
                bestFit = fit;
            }
        }
        return what == 0 ? bestKey : bestFit;
    }

    public int like(int what) {
        if (what < 0 || what > 2) {
            return INVALID_ARGUMENT;
        }
        for (int row = 0; row < now.size; row++) {
            int holes = now.holesAt(what == 1 ? row : now.size - 1 - row);
            if (now.holesAt(row) != (what == 0 ? holes : mirrored(holes))) {
                return 0;
            }
        }
        return 1;
    }

    public int mean() {
        int all = tones.inAll();
        if (all == 0) {
            return NOT_FOUND;
        }
        return bitsOf((float) rows.soundingThreads() / (float) all);
    }

    public int count(int what) {
        switch (what) {
            case 0:
                return now.size;
            case 1:
                return rows.stamped();
            case 2:
                return tones.inAll();
            case 3:
                return rows.clashes();
            case 4:
                return cloth.longFloatsInAll();
            case 5:
                return now.refusals;
            case 6:
                return now.refused == NO_CARD ? NOT_FOUND : now.refused;
            case 7:
                return now.refusedTimes;
            case 8:
                return rows.bars();
            case 9:
                return history.kept;
            case 10:
                return script.length;
            case 20:
            case 21:
            case 22:
            case 23:
                return now.settingAt(what - 20);
            default:
                return INVALID_ARGUMENT;
        }
    }

    public int undo() {
        return history.restoreTo(now);
    }

    // ---- texts

    public int type(int character) {
        return script.append(character);
    }

    public int clearText() {
        return script.empty();
    }

    public int fault(int what) {
        if (what < 0 || what > 2) {
            return INVALID_ARGUMENT;
        }
        trial.copyFrom(now);
        if (script.runsOn(trial)) {
            return NOT_FOUND;
        }
        return what == 0 ? script.faultPlace : what == 1 ? script.faultReason : script.faultCause;
    }

    public int play() {
        trial.copyFrom(now);
        return settle(script.runsOn(trial) ? script.orders : NOT_POSSIBLE);
    }

    /** Every change is tried on a copy first, so that one that ends in an error leaves no trace. */
    private int settle(int answer) {
        if (answer >= 0) {
            history.keep(now);
            now.copyFrom(trial);
        }
        return answer;
    }

    private static int mirrored(int holes) {
        int image = 0;
        for (int hole = 0; hole < THREADS; hole++) {
            if (isIn(holes, hole)) {
                image |= 1 << (THREADS - 1 - hole);
            }
        }
        return image;
    }

    private static boolean isIn(int set, int bit) {
        return (set >> bit & 1) == 1;
    }

    /**
     * LANGUAGE.md leaves no call that tells a float's bits. A mean length is 1 or more, so there is
     * neither a sign nor a negative exponent, and each step here is exact.
     */
    private static int bitsOf(float mean) {
        float fraction = mean;
        int exponent = 127;
        while (fraction >= 2.0f && exponent < 254) {
            fraction = fraction / 2.0f;
            exponent++;
        }
        return (exponent << 23) + (int) ((fraction - 1.0f) * 8388608.0f);
    }

    /** All that a change records: threads, cards, settings and what the clerk remembers. */
    private static final class Register {
        final int[] notes;
        final int[] colours;
        /** Each with its holes and perhaps STAMP. */
        final int[] cards;
        final int[] settings;
        int size;
        int refusals;
        int refused;
        int refusedTimes;

        Register() {
            notes = new int[] {12, 14, 16, 18, 20, 22, 24, 26};
            colours = new int[] {0, 1, 2, 3, 0, 1, 2, 3};
            cards = new int[MOST_CARDS];
            settings = new int[] {4, 5, 3, 6};
            size = 0;
            refusals = 0;
            refused = NO_CARD;
            refusedTimes = 0;
        }

        void copyFrom(Register other) {
            copyRow(other.notes, notes);
            copyRow(other.colours, colours);
            copyRow(other.cards, cards);
            copyRow(other.settings, settings);
            size = other.size;
            refusals = other.refusals;
            refused = other.refused;
            refusedTimes = other.refusedTimes;
        }

        private static void copyRow(int[] from, int[] to) {
            for (int place = 0; place < from.length && place < to.length; place++) {
                to[place] = from[place];
            }
        }

        boolean isFull() {
            return size >= MOST_CARDS;
        }

        boolean hasCard(int card) {
            return card >= 0 && card < size;
        }

        int noteAt(int thread) {
            return thread >= 0 && thread < notes.length ? notes[thread] : 0;
        }

        int colourAt(int thread) {
            return thread >= 0 && thread < colours.length ? colours[thread] : 0;
        }

        int settingAt(int what) {
            return what >= 0 && what < settings.length ? settings[what] : 0;
        }

        /** A row that is not there has no holes: this lets a tone begin with the first row. */
        int holesAt(int row) {
            return row >= 0 && row < size && row < cards.length ? cards[row] & ALL_HOLES : 0;
        }

        int stampsAt(int row) {
            return cardAt(row) >= STAMP ? 1 : 0;
        }

        private int cardAt(int row) {
            return row >= 0 && row < size && row < cards.length ? cards[row] : 0;
        }

        boolean soundsAt(int row, int thread) {
            return isIn(holesAt(row), thread);
        }

        private void put(int row, int card) {
            if (row >= 0 && row < cards.length) {
                cards[row] = card;
            }
        }

        int tune(int thread, int note) {
            if (thread < 0 || thread >= notes.length || note < 0 || note >= NOTES) {
                return INVALID_ARGUMENT;
            }
            int before = notes[thread];
            notes[thread] = note;
            return before;
        }

        int dye(int thread, int colour) {
            if (thread < 0 || thread >= colours.length || colour < 0 || colour >= COLOURS) {
                return INVALID_ARGUMENT;
            }
            int before = colours[thread];
            colours[thread] = colour;
            return before;
        }

        int offer(int holes) {
            int answer = answerTo(holes);
            if (answer == 0) {
                take(holes);
            } else if (answer > 10) {
                take(holes + STAMP);
            } else if (answer > 0) {
                refuse(holes);
            }
            return answer;
        }

        private void take(int card) {
            put(size, card);
            size++;
            refused = NO_CARD;
            refusedTimes = 0;
        }

        private void refuse(int holes) {
            refusals++;
            refusedTimes = refused == holes ? refusedTimes + 1 : 1;
            refused = holes;
        }

        int tearOut(int card) {
            if (!hasCard(card)) {
                return INVALID_ARGUMENT;
            }
            int holes = holesAt(card);
            for (int row = card; row < size - 1; row++) {
                put(row, cardAt(row + 1));
            }
            size--;
            return holes;
        }

        int exchange(int one, int other) {
            if (!hasCard(one) || !hasCard(other) || one == other) {
                return INVALID_ARGUMENT;
            }
            exchangeCards(one, other);
            return holesAt(one);
        }

        private void exchangeCards(int one, int other) {
            int card = cardAt(one);
            put(one, cardAt(other));
            put(other, card);
        }

        int reverse() {
            if (size < 2) {
                return NOT_POSSIBLE;
            }
            for (int row = 0; row < size / 2; row++) {
                exchangeCards(row, size - 1 - row);
            }
            return size;
        }

        int flip() {
            if (size == 0) {
                return NOT_POSSIBLE;
            }
            int others = 0;
            for (int row = 0; row < size; row++) {
                int holes = holesAt(row);
                int image = mirrored(holes);
                if (image != holes) {
                    others++;
                }
                put(row, cardAt(row) - holes + image);
            }
            return others;
        }

        int adjust(int what, int value) {
            if (what < 0 || what >= settings.length || what >= SETTING_LEAST.length || what >= SETTING_MOST.length) {
                return INVALID_ARGUMENT;
            }
            if (value < SETTING_LEAST[what] || value > SETTING_MOST[what]) {
                return INVALID_ARGUMENT;
            }
            int before = settings[what];
            settings[what] = value;
            return before;
        }

        int answerTo(int holes) {
            if (holes < 0 || holes > ALL_HOLES) {
                return INVALID_ARGUMENT;
            }
            if (isFull()) {
                return LIMIT_REACHED;
            }
            int reason = reasonAgainst(holes);
            boolean thirdTime = refused == holes && refusedTimes >= 2;
            return reason != 0 && thirdTime ? 10 + reason : reason;
        }

        private int reasonAgainst(int holes) {
            if (Integer.bitCount(holes) > settingAt(HOLES_ALLOWED)) {
                return 1;
            }
            if (clashesOf(holes) > settingAt(CLASHES_ALLOWED)) {
                return 2;
            }
            return size > 0 && holesAt(size - 1) == holes ? 3 : 0;
        }

        /** The steps that clash are the same upwards and downwards, so either note may be the greater one. */
        int clashesOf(int holes) {
            int clashes = 0;
            for (int one = 0; one < notes.length; one++) {
                for (int other = 0; other < one; other++) {
                    int step = (notes[one] + NOTES - notes[other]) % OCTAVE;
                    clashes += holes >> one & holes >> other & CLASHING_STEPS >> step & 1;
                }
            }
            return clashes;
        }

        int inCommonWithLast(int holes) {
            return Integer.bitCount(holes & holesAt(size - 1));
        }

        int bestCard() {
            int best = NO_CARD;
            for (int holes = 1; holes <= ALL_HOLES; holes++) {
                if (reasonAgainst(holes) == 0 && (best == NO_CARD || isBetter(holes, best))) {
                    best = holes;
                }
            }
            return best;
        }

        private boolean isBetter(int holes, int best) {
            int clashes = clashesOf(holes);
            int fewest = clashesOf(best);
            return clashes != fewest ? clashes < fewest : inCommonWithLast(holes) > inCommonWithLast(best);
        }
    }

    /** What may be asked of the rows one by one, and of all rows together. */
    private static final class Rows {
        private final Register register;

        Rows(Register register) {
            this.register = register;
        }

        int barAt(int row) {
            int barRows = register.settingAt(BAR_ROWS);
            return barRows > 0 ? row / barRows : 0;
        }

        int bars() {
            return register.size == 0 ? 0 : barAt(register.size - 1) + 1;
        }

        int noteSet(int row) {
            int set = 0;
            for (int thread = 0; thread < THREADS; thread++) {
                if (register.soundsAt(row, thread)) {
                    set |= 1 << register.noteAt(thread) % OCTAVE;
                }
            }
            return set;
        }

        int highest(int row) {
            int highest = NOT_FOUND;
            for (int thread = 0; thread < THREADS; thread++) {
                if (register.soundsAt(row, thread)) {
                    highest = Math.max(highest, register.noteAt(thread));
                }
            }
            return highest;
        }

        int lowest(int row) {
            int lowest = NOTES;
            for (int thread = 0; thread < THREADS; thread++) {
                if (register.soundsAt(row, thread)) {
                    lowest = Math.min(lowest, register.noteAt(thread));
                }
            }
            return lowest == NOTES ? NOT_FOUND : lowest;
        }

        int aboveByColours(int row) {
            int sum = 0;
            int weight = 1000;
            for (int colour = 0; colour < COLOURS; colour++) {
                sum += weight * aboveWith(row, colour);
                weight /= 10;
            }
            return sum;
        }

        private int aboveWith(int row, int colour) {
            int above = 0;
            for (int thread = 0; thread < THREADS; thread++) {
                if (register.soundsAt(row, thread) && register.colourAt(thread) == colour) {
                    above++;
                }
            }
            return above;
        }

        /** Of two rows with as many holes, the notes of one that the other has as often leave no others. */
        boolean soundTheSame(int one, int other) {
            boolean same = Integer.bitCount(register.holesAt(one)) == Integer.bitCount(register.holesAt(other));
            for (int thread = 0; thread < THREADS && same; thread++) {
                int note = register.noteAt(thread);
                same = !register.soundsAt(one, thread) || howOften(one, note) == howOften(other, note);
            }
            return same;
        }

        private int howOften(int row, int note) {
            int times = 0;
            for (int thread = 0; thread < THREADS; thread++) {
                if (register.soundsAt(row, thread) && register.noteAt(thread) == note) {
                    times++;
                }
            }
            return times;
        }

        int soundingRows(int thread) {
            int sounding = 0;
            for (int row = 0; row < register.size; row++) {
                if (register.soundsAt(row, thread)) {
                    sounding++;
                }
            }
            return sounding;
        }

        /** The rows of all tones together: each row of a tone is a hole of its thread. */
        int soundingThreads() {
            int sounding = 0;
            for (int row = 0; row < register.size; row++) {
                sounding += Integer.bitCount(register.holesAt(row));
            }
            return sounding;
        }

        int stamped() {
            int stamped = 0;
            for (int row = 0; row < register.size; row++) {
                stamped += register.stampsAt(row);
            }
            return stamped;
        }

        int clashes() {
            int clashes = 0;
            for (int row = 0; row < register.size; row++) {
                clashes += register.clashesOf(register.holesAt(row));
            }
            return clashes;
        }
    }

    /** Threads that are held from row to row. */
    private static final class Tones {
        private final Register register;

        Tones(Register register) {
            this.register = register;
        }

        private boolean beginsAt(int row, int thread) {
            return register.soundsAt(row, thread) && !register.soundsAt(row - 1, thread);
        }

        int beginningAt(int row) {
            return Integer.bitCount(register.holesAt(row) & ~register.holesAt(row - 1));
        }

        int ofThread(int thread) {
            int tones = 0;
            for (int row = 0; row < register.size; row++) {
                if (beginsAt(row, thread)) {
                    tones++;
                }
            }
            return tones;
        }

        int inAll() {
            int tones = 0;
            for (int row = 0; row < register.size; row++) {
                tones += beginningAt(row);
            }
            return tones;
        }

        /** The first row times THREADS, and the thread: one number, so that no object is needed for two. */
        int placeOf(int tone) {
            int ahead = 0;
            for (int place = 0; place < register.size * THREADS; place++) {
                if (beginsAt(place / THREADS, place % THREADS)) {
                    if (ahead == tone) {
                        return place;
                    }
                    ahead++;
                }
            }
            return NOT_FOUND;
        }

        int lengthFrom(int firstRow, int thread) {
            int length = 0;
            for (int row = firstRow; row < register.size && register.soundsAt(row, thread); row++) {
                length++;
            }
            return length;
        }

        int inKey(int key) {
            int tones = 0;
            for (int thread = 0; thread < THREADS; thread++) {
                int step = (register.noteAt(thread) + OCTAVE - key) % OCTAVE;
                if (isIn(KEY_STEPS, step)) {
                    tones += ofThread(thread);
                }
            }
            return tones;
        }
    }

    /** How long the threads stay above or below. */
    private static final class Cloth {
        private final Register register;

        Cloth(Register register) {
            this.register = register;
        }

        private int staysUpTo(int row, int thread) {
            boolean above = register.soundsAt(row, thread);
            int length = 0;
            for (int earlier = row; earlier >= 0 && register.soundsAt(earlier, thread) == above; earlier--) {
                length++;
            }
            return length;
        }

        int longestFloat(int thread) {
            int longest = 0;
            for (int row = 0; row < register.size; row++) {
                longest = Math.max(longest, staysUpTo(row, thread));
            }
            return longest;
        }

        /** A float is counted in the one row in which it becomes long. */
        int longFloats(int thread) {
            int longOnes = 0;
            for (int row = 0; row < register.size; row++) {
                if (staysUpTo(row, thread) == register.settingAt(FLOAT_ALLOWED) + 1) {
                    longOnes++;
                }
            }
            return longOnes;
        }

        int longFloatsInAll() {
            int longOnes = 0;
            for (int thread = 0; thread < THREADS; thread++) {
                longOnes += longFloats(thread);
            }
            return longOnes;
        }
    }

    /** The states to go back to, the oldest one first. */
    private static final class History {
        private final Register[] states;
        int kept;

        History() {
            states = new Register[MOST_STATES];
            for (int place = 0; place < states.length; place++) {
                states[place] = new Register();
            }
            kept = 0;
        }

        void keep(Register before) {
            if (kept >= states.length) {
                dropOldest();
            }
            Register free = stateAt(kept);
            if (free != null) {
                free.copyFrom(before);
                kept++;
            }
        }

        /** The object of the oldest state is used again for the next one. */
        private void dropOldest() {
            Register oldest = stateAt(0);
            for (int place = 0; place + 1 < states.length; place++) {
                states[place] = states[place + 1];
            }
            if (states.length > 0) {
                states[states.length - 1] = oldest;
            }
            kept--;
        }

        int restoreTo(Register current) {
            Register latest = stateAt(kept - 1);
            if (latest == null) {
                return NOT_POSSIBLE;
            }
            current.copyFrom(latest);
            kept--;
            return kept;
        }

        private Register stateAt(int place) {
            return place >= 0 && place < states.length ? states[place] : null;
        }
    }

    /** The text, the order that is being read in it, and what its last run came to. */
    private static final class Script {
        /** What is read behind the last character; it cannot be typed. */
        private static final char END = 0;

        private final char[] signs;
        int length;
        private int next;
        private char kind;
        private int first;
        private int second;
        int orders;
        int faultPlace;
        int faultReason;
        int faultCause;

        Script() {
            signs = new char[MOST_SIGNS];
            length = 0;
        }

        int append(int character) {
            if (character < 32 || character > 126) {
                return INVALID_ARGUMENT;
            }
            if (length < 0 || length >= signs.length) {
                return LIMIT_REACHED;
            }
            signs[length] = (char) character;
            length++;
            return length;
        }

        int empty() {
            int before = length;
            length = 0;
            return before;
        }

        /** Does the orders until one is not possible; true if all were. */
        boolean runsOn(Register register) {
            next = 0;
            orders = 0;
            for (int order = 0; order < MOST_SIGNS && next < length; order++) {
                faultPlace = next;
                if (!readsOrder()) {
                    faultReason = 1;
                    faultCause = next - faultPlace;
                    return false;
                }
                int answer = doneOn(register);
                if (answer < 0) {
                    faultReason = 2;
                    faultCause = answer;
                    return false;
                }
                orders++;
            }
            return true;
        }

        /** Each reading method leaves next at the first character that it could not read. */
        private boolean readsOrder() {
            kind = signAtNext();
            switch (kind) {
                case 'c':
                    next++;
                    return readsHoles() && reads(';');
                case 'n':
                case 'k':
                    next++;
                    return readsFirst() && reads(',') && readsSecond() && reads(';');
                case 'x':
                    next++;
                    return readsFirst() && reads(';');
                case 't':
                    next++;
                    return reads(';');
                default:
                    return false;
            }
        }

        private boolean reads(char sign) {
            if (signAtNext() != sign) {
                return false;
            }
            next++;
            return true;
        }

        /** The digits have to rise, so each hole has one chance, in its turn. */
        private boolean readsHoles() {
            first = 0;
            for (int hole = 0; hole < THREADS; hole++) {
                if (reads((char) ('0' + hole))) {
                    first |= 1 << hole;
                }
            }
            return first != 0;
        }

        private boolean readsFirst() {
            first = readNumber();
            return first >= 0;
        }

        private boolean readsSecond() {
            second = readNumber();
            return second >= 0;
        }

        private int readNumber() {
            if (!isDigitNext()) {
                return -1;
            }
            int number = signAtNext() - '0';
            next++;
            if (isDigitNext()) {
                number = 10 * number + signAtNext() - '0';
                next++;
            }
            return number;
        }

        private boolean isDigitNext() {
            char sign = signAtNext();
            return sign >= '0' && sign <= '9';
        }

        private char signAtNext() {
            return next >= 0 && next < length && next < signs.length ? signs[next] : END;
        }

        private int doneOn(Register register) {
            switch (kind) {
                case 'c':
                    return register.offer(first);
                case 'n':
                    return register.tune(first, second);
                case 'k':
                    return register.dye(first, second);
                case 'x':
                    return register.tearOut(first);
                default:
                    return register.reverse();
            }
        }
    }
}
