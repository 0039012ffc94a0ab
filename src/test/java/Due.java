/** Counts and prints the calls whose answer is not the one that is due. */
final class Due {
    private final String name;
    private int calls = 0;
    private int wrong = 0;

    Due(String name) {
        this.name = name;
    }

    void due(String call, int got, int want) {
        calls++;
        if (got != want) {
            wrong++;
            System.out.println(name + ": " + call + " answered " + got + ", due is " + want);
        }
    }

    void holds(String what, boolean good) {
        calls++;
        if (!good) {
            wrong++;
            System.out.println(name + ": " + what);
        }
    }

    /** Ends the program with exit code 1 if an answer was wrong. */
    void close() {
        System.out.println(name + ": " + calls + " looked at, " + wrong + " wrong");
        if (wrong != 0 || calls == 0) {
            System.exit(1);
        }
    }
}
