/** Counts the answers that are not as due, and tells them. */
final class Checks {
    private final String of;
    private int made;
    private int wrong;

    Checks(String of) {
        this.of = of;
    }

    void due(String call, long got, long want) {
        made++;
        if (got != want) {
            wrong++;
            System.out.println(of + ": " + call + " answered " + got + ", due is " + want);
        }
    }

    void that(String what, boolean holds) {
        made++;
        if (!holds) {
            wrong++;
            System.out.println(of + ": not so: " + what);
        }
    }

    boolean anyWrong() {
        return wrong > 0;
    }

    void end() {
        System.out.println(of + ": " + made + " checks, " + wrong + " wrong");
        if (wrong > 0) {
            System.exit(1);
        }
    }
}
