/** Counts answers that are not the ones that are due, and tells them. */
final class Due {
    private int wrong = 0;
    private int asked = 0;
    private String part = "";

    void part(String name) {
        part = name;
    }

    void is(String call, long got, long want) {
        asked++;
        if (got == want) return;
        wrong++;
        System.out.println(part + ": " + call + " answered " + got + ", due is " + want);
    }

    void holds(String what, boolean good) {
        asked++;
        if (good) return;
        wrong++;
        System.out.println(part + ": " + what);
    }

    /** Ends the program with exit code 1, if an answer was wrong. */
    void end() {
        System.out.println(asked + " asked, " + wrong + " wrong");
        if (wrong != 0) System.exit(1);
    }
}
