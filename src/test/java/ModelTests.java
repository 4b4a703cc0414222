import java.util.ArrayDeque;
import java.util.ArrayList;
import java.util.Deque;
import java.util.List;
import java.util.Random;

/** Long runs of calls, the same ones each time, on the program and on the model. */
public final class ModelTests {
    private static final int RUNS = 1500;
    private static final int CALLS = 512;
    private static final String[] PIECES = {
        "c0;", "c1;", "c02;", "c35;", "c1357;", "c01234567;", "c012;", "c7;", "c;", "c8;", "c10;", "c00;", "c0",
        "n0,5;", "n07,00;", "n7,47;", "n7,48;", "n8,1;", "n12,3;", "n123,3;", "n1;", "n1,;", "n,1;", "n1,123;", "n1 ,2;",
        "k0,3;", "k01,02;", "k7,4;", "k9,0;", "k1.2;", "x0;", "x00;", "x1;", "x23;", "x24;", "x99;", "x100;", "x;",
        "t;", "tt;", "t", ";", " ", "C0;", "z"};

    private final Random random;
    private final LoomTunes program = new LoomTunes();
    private final LoomModel model = new LoomModel();
    private final Deque<Character> toType = new ArrayDeque<>();
    private final List<String> calls = new ArrayList<>();
    private int lastHoles = 0;

    private ModelTests(int run) {
        random = new Random(run);
    }

    public static void main(String[] args) {
        Checks checks = new Checks("ModelTests");
        for (int run = 0; run < RUNS && !checks.anyWrong(); run++) {
            new ModelTests(run).compare(checks);
        }
        checks.end();
    }

    private void compare(Checks checks) {
        int rare = random.nextInt(4);
        for (int call = 0; call < CALLS && !checks.anyWrong(); call++) {
            int[] answers = random.nextInt(3) > 0 ? change(rare) : question();
            checks.due(calls.get(calls.size() - 1), answers[0], answers[1]);
        }
        if (checks.anyWrong()) {
            System.out.println("the run: " + String.join(" ", calls));
        }
    }

    private int[] both(String call, int got, int want) {
        calls.add(call);
        return new int[] {got, want};
    }

    /** Mostly within the range, now and then just outside it, seldom far from it. */
    private int about(int least, int most) {
        int kind = random.nextInt(40);
        if (kind == 0) {
            return least - 1;
        }
        if (kind == 1) {
            return most + 1;
        }
        if (kind == 2) {
            return List.of(Integer.MIN_VALUE, Integer.MAX_VALUE, -1000, 1000).get(random.nextInt(4));
        }
        return least + random.nextInt(Math.max(1, most - least + 1));
    }

    private int holes() {
        int kind = random.nextInt(6);
        if (kind < 2) {
            return lastHoles;
        }
        lastHoles = kind == 2 ? about(0, 255) : kind == 3 ? random.nextInt(256) & random.nextInt(256)
            : 1 << random.nextInt(8) | 1 << random.nextInt(8);
        return lastHoles;
    }

    private int[] change(int rare) {
        int cards = model.count(0);
        switch (random.nextInt(rare == 0 ? 12 : 20)) {
            case 0: {
                int thread = about(0, 7);
                int note = about(0, 47);
                return both("note(" + thread + ", " + note + ")", program.note(thread, note), model.note(thread, note));
            }
            case 1: {
                int thread = about(0, 7);
                int colour = about(0, 3);
                return both("colour(" + thread + ", " + colour + ")",
                    program.colour(thread, colour), model.colour(thread, colour));
            }
            case 2: {
                int card = about(0, cards - 1);
                return both("tear(" + card + ")", program.tear(card), model.tear(card));
            }
            case 3: {
                int one = about(0, cards - 1);
                int other = about(0, cards - 1);
                return both("swap(" + one + ", " + other + ")", program.swap(one, other), model.swap(one, other));
            }
            case 4:
                return random.nextInt(3) > 0 ? both("turn()", program.turn(), model.turn())
                    : both("undo()", program.undo(), model.undo());
            case 5:
                return both("mirror()", program.mirror(), model.mirror());
            case 6: {
                int what = about(0, 3);
                int value = random.nextBoolean() ? about(0, 9) : about(0, 28);
                return both("set(" + what + ", " + value + ")", program.set(what, value), model.set(what, value));
            }
            case 7:
                return text();
            case 8:
                return both("play()", program.play(), model.play());
            case 9:
                return random.nextInt(3) == 0 ? both("clearText()", program.clearText(), model.clearText()) : text();
            case 10:
                return text();
            default: {
                int holes = holes();
                return both("bring(" + holes + ")", program.bring(holes), model.bring(holes));
            }
        }
    }

    private int[] text() {
        if (toType.isEmpty()) {
            for (char sign : PIECES[random.nextInt(PIECES.length)].toCharArray()) {
                toType.add(sign);
            }
        }
        int sign = random.nextInt(60) == 0 ? about(32, 126) : toType.remove();
        return both("type(" + sign + ")", program.type(sign), model.type(sign));
    }

    private int[] question() {
        int cards = model.count(0);
        int what = about(0, 9);
        switch (random.nextInt(13)) {
            case 0: {
                int card = about(0, cards - 1);
                return both("cardOf(" + card + ", " + what + ")", program.cardOf(card, what), model.cardOf(card, what));
            }
            case 1: {
                int thread = about(0, 7);
                int part = about(0, 5);
                return both("threadOf(" + thread + ", " + part + ")",
                    program.threadOf(thread, part), model.threadOf(thread, part));
            }
            case 2: {
                int tone = about(0, model.count(2));
                int part = about(0, 4);
                return both("toneOf(" + tone + ", " + part + ")", program.toneOf(tone, part), model.toneOf(tone, part));
            }
            case 3: {
                int bar = about(0, random.nextBoolean() ? 11 : 3);
                int part = about(0, 3);
                return both("barOf(" + bar + ", " + part + ")", program.barOf(bar, part), model.barOf(bar, part));
            }
            case 4: {
                int card = about(0, cards - 1);
                return both("alike(" + card + ")", program.alike(card), model.alike(card));
            }
            case 5: {
                int holes = holes();
                return both("would(" + holes + ")", program.would(holes), model.would(holes));
            }
            case 6: {
                int part = about(0, 2);
                return both("best(" + part + ")", program.best(part), model.best(part));
            }
            case 7: {
                int part = about(0, 1);
                return both("key(" + part + ")", program.key(part), model.key(part));
            }
            case 8: {
                int part = about(0, 2);
                return both("like(" + part + ")", program.like(part), model.like(part));
            }
            case 9:
                return both("mean()", program.mean(), model.mean());
            case 10:
            case 11: {
                int part = random.nextInt(4) == 0 ? about(20, 23) : about(0, 10);
                return both("count(" + part + ")", program.count(part), model.count(part));
            }
            default: {
                int part = about(0, 2);
                return both("fault(" + part + ")", program.fault(part), model.fault(part));
            }
        }
    }
}
