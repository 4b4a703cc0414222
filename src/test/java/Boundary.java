import java.lang.reflect.InvocationTargetException;
import java.lang.reflect.Method;
import java.util.Arrays;
import java.util.Comparator;
import java.util.Map;
import java.util.TreeMap;
import java.util.function.ToIntFunction;
import java.util.regex.Matcher;
import java.util.regex.Pattern;

/** Runs the methods of a class that are named "promise", a number and a boundary case, each as a test of its own. */
abstract class Boundary {
    static final int INVALID = -1000001;
    static final int IMPOSSIBLE = -1000002;
    static final int LIMIT = -1000003;
    static final int NONE = -1000004;
    static final int MIN = Integer.MIN_VALUE;
    static final int MAX = Integer.MAX_VALUE;

    private static final Pattern NAME = Pattern.compile("promise(\\d+)[A-Z]\\w*");
    /** One more than there are states in a full history. */
    private static final int MOST_UNDONE = 5;

    private String test = "";
    private int wrong = 0;

    /** Each promise from the first to the last one has to have a test. */
    final void run(int firstPromise, int lastPromise) {
        Map<Integer, Integer> tests = new TreeMap<>();
        int failed = 0;
        for (Method method : inOrder()) {
            int promise = promiseOf(method);
            tests.merge(promise, 1, Integer::sum);
            failed += passes(method) && promise >= firstPromise && promise <= lastPromise ? 0 : 1;
        }
        for (int promise = firstPromise; promise <= lastPromise; promise++) {
            failed += tests.containsKey(promise) ? 0 : 1;
        }
        System.out.println(getClass().getName() + ": tests by promises " + tests + ", " + failed + " failed");
        if (failed > 0) {
            System.exit(1);
        }
    }

    private Method[] inOrder() {
        Method[] methods = Arrays.stream(getClass().getDeclaredMethods())
            .filter(method -> NAME.matcher(method.getName()).matches()).toArray(Method[]::new);
        Arrays.sort(methods, Comparator.comparingInt(Boundary::promiseOf).thenComparing(Method::getName));
        return methods;
    }

    private static int promiseOf(Method method) {
        Matcher name = NAME.matcher(method.getName());
        return name.matches() ? Integer.parseInt(name.group(1)) : 0;
    }

    private boolean passes(Method method) {
        test = method.getName();
        int before = wrong;
        try {
            method.invoke(this);
        } catch (InvocationTargetException | IllegalAccessException problem) {
            wrong++;
            System.out.println(test + ": " + problem + ", " + problem.getCause());
        }
        return wrong == before;
    }

    final void due(String call, Object got, Object want) {
        if (!got.equals(want)) {
            wrong++;
            System.out.println(test + ": " + call + " answered " + got + ", due is " + want);
        }
    }

    /** The call answers this error in each of these objects, and then nothing has changed. */
    final void error(String call, int want, ToIntFunction<LoomTunes> made, Looms... objects) {
        for (Looms object : objects) {
            due(call + " in " + object, made.applyAsInt(object.make()), want);
            keeps(call, made, object);
        }
    }

    final void errorInAll(String call, int want, ToIntFunction<LoomTunes> made) {
        error(call, want, made, Looms.values());
    }

    /** The call, whatever it answers, leaves everything as it was, back to the oldest state of the history. */
    final void keeps(String call, ToIntFunction<LoomTunes> made, Looms object) {
        for (int undone = 0; undone <= MOST_UNDONE; undone++) {
            LoomTunes called = object.make();
            made.applyAsInt(called);
            due(call + " in " + object + ": what there is then, with " + undone + " undone",
                Seen.after(called, undone), Seen.after(object.make(), undone));
        }
    }

    final void keepsInAll(String call, ToIntFunction<LoomTunes> made) {
        for (Looms object : Looms.values()) {
            keeps(call, made, object);
        }
    }

    /** The call is a change: one state more, and undone, all is as it was. */
    final void change(String call, int want, ToIntFunction<LoomTunes> made, Looms object) {
        LoomTunes loom = object.make();
        int states = loom.count(9);
        due(call + " in " + object, made.applyAsInt(loom), want);
        due(call + " in " + object + ": states", loom.count(9), Math.min(4, states + 1));
        due(call + " in " + object + ": undo()", loom.undo(), Math.min(4, states + 1) - 1);
        due(call + " in " + object + ": what there is when it is undone",
            Seen.butStates(loom), Seen.butStates(object.make()));
        changeOfWhatThereIsNow(call, want, made, object);
    }

    /** Nothing of an undone change, nor of orders of which only the fault was asked, comes in with a later one. */
    private void changeOfWhatThereIsNow(String call, int want, ToIntFunction<LoomTunes> made, Looms object) {
        LoomTunes plain = object.make();
        made.applyAsInt(plain);
        LoomTunes loom = object.make();
        loom.note(6, 33);
        loom.undo();
        loom.fault(0);
        due(call + " in " + object + " behind an undone change", made.applyAsInt(loom), want);
        due(call + " in " + object + ": what there is behind an undone change",
            Seen.butStates(loom), Seen.butStates(plain));
    }

    final void cards(String after, LoomTunes loom, int... holes) {
        due(after + ": count(0)", loom.count(0), holes.length);
        for (int card = 0; card < holes.length; card++) {
            due(after + ": cardOf(" + card + ", 0)", loom.cardOf(card, 0), holes[card]);
        }
    }

    /** Which of the cards have a stamp, in a text of "s" and "-". */
    final void stamps(String after, LoomTunes loom, String want) {
        StringBuilder stamps = new StringBuilder();
        for (int card = 0; card < want.length(); card++) {
            stamps.append(loom.cardOf(card, 2) == 1 ? 's' : '-');
        }
        due(after + ": stamps", stamps.toString(), want);
    }
}
