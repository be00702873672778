/** Counts the answers that are not the due ones, and ends a test by what it counted. */
final class Check {
    private int asked = 0;
    private int wrong = 0;

    void due(String call, long want, long got) {
        asked++;
        if (want == got) return;
        wrong++;
        if (wrong <= 40) System.out.println(call + " answered " + got + ", due is " + want);
    }

    void holds(String what, boolean so) {
        asked++;
        if (so) return;
        wrong++;
        System.out.println("does not hold: " + what);
    }

    boolean isClean() {
        return wrong == 0;
    }

    void end() {
        System.out.println(asked + " looked at, " + wrong + " wrong");
        if (wrong != 0) System.exit(1);
    }
}
