import java.io.IOException;

/** The boundary cases of promises 13 to 15, sentence by sentence. */
public final class StrikesEdgesTest {
    private static final Edges EDGES = new Edges("StrikesEdgesTest");
    private static final String[] NO_BARS = {"-1", "10", "MIN", "MAX"};
    /** BARS 0 and 1 are NEAR; 0 hangs from 0 to 10 below it, 1 comes down from 60 to 0 from TIME 200 on, by 1. */
    private static final String[] LATE = {"set(0, 0, 0)", "set(0, 1, 10)", "set(0, 2, 1)", "set(1, 1, 1)",
        "move(1, 200, 0, 1)"};
    /** BARS 0 and 1 STRIKE at all TIMES, no other ones do. */
    private static final String[] ALWAYS = {"set(0, 1, 10)", "set(0, 2, 1)", "set(1, 1, 1)"};

    public static void main(String[] args) throws IOException {
        strikeTells();
        strikeRefuses();
        clashTellsTheTime();
        clashTellsThePair();
        clashRefuses();
        oftenCounts();
        oftenRefuses();
        EDGES.close(args);
    }

    private static void strikeTells() {
        EDGES.heading("Promise 13: strike");
        EDGES.plain("`int strike(int one, int other, int time)`:");
        EDGES.sentence("Whether two BARS STRIKE at a TIME (0 to 300: 1, 0).");
        EDGES.run("strike(0, 1, 0) = 0", "strike(9, 0, 300) = 0", ALWAYS, "strike(0, 1, -1) = OUTSIDE",
            "strike(0, 1, 0) = 1", "strike(1, 0, 0) = 1", "strike(0, 1, 300) = 1", "strike(1, 0, 300) = 1",
            "strike(0, 1, 301) = OUTSIDE", "strike(0, 2, 0) = 0");
        // At 260 it is at 0, and hangs within the other; at 259 from 1 down to 0, a mere point.
        EDGES.run(LATE, "strike(0, 1, 0) = 0", "strike(0, 1, 259) = 0", "strike(0, 1, 260) = 1", "strike(0, 1, 300) = 1");
        EDGES.run("set(9, 1, 5)", "set(8, 1, 5)", "set(8, 2, 1)", "strike(9, 8, 0) = 1", "strike(8, 9, 300) = 1");
    }

    private static void strikeRefuses() {
        EDGES.sentence("UNKNOWN: both;");
        EDGES.refusedAnywhere("UNKNOWN", Edges.each("strike(?, 0, 0)", NO_BARS));
        EDGES.refusedAnywhere("UNKNOWN", Edges.each("strike(0, ?, 0)", NO_BARS));
        EDGES.refusedAnywhere("UNKNOWN", Edges.each("strike(?, ?, 0)", NO_BARS));
        EDGES.refusedAnywhere("UNKNOWN", "strike(-1, 10, 0)", "strike(MIN, MAX, 300)");
        EDGES.sentence("OUTSIDE: they are one, the TIME.");
        EDGES.refusedAnywhere("OUTSIDE", Edges.each("strike(?, ?, 0)", "0", "1", "8", "9"));
        EDGES.refusedAnywhere("OUTSIDE", Edges.each("strike(0, 1, ?)", "-1", "301", "MIN", "MAX"));
        EDGES.refusedAnywhere("OUTSIDE", Edges.each("strike(9, 0, ?)", "-1", "301", "MIN", "MAX"));
        EDGES.refusedAnywhere("OUTSIDE", "strike(9, 9, 301)", "strike(0, 0, -1)");
    }

    private static void clashTellsTheTime() {
        EDGES.heading("Promise 14: clash");
        EDGES.plain("`int clash(int from, int what)`:");
        EDGES.sentence("The first TIME, from one on (0 to 300), up to 300, at which any two BARS STRIKE (what = 0),");
        EDGES.run(ALWAYS, "clash(-1, 0) = OUTSIDE", "clash(0, 0) = 0", "clash(1, 0) = 1", "clash(299, 0) = 299",
            "clash(300, 0) = 300", "clash(301, 0) = OUTSIDE");
        EDGES.run(LATE, "clash(0, 0) = 260", "clash(259, 0) = 260", "clash(260, 0) = 260", "clash(261, 0) = 261",
            "clash(300, 0) = 300");
        // They STRIKE at 0 alone: 1 goes up by 1 from 0, where it is within the other.
        EDGES.run("set(0, 0, 0)", "set(0, 1, 10)", "set(0, 2, 1)", "set(1, 0, 0)", "set(1, 1, 1)", "move(1, 0, 60, 1)",
            "clash(0, 0) = 0", "clash(1, 0) = NONE");
    }

    private static void clashTellsThePair() {
        EDGES.sentence("of these the lesser BAR (1), the other one (2),");
        EDGES.run(ALWAYS, "clash(0, 1) = 0", "clash(0, 2) = 1", "clash(300, 1) = 0", "clash(300, 2) = 1");
        EDGES.run("set(9, 1, 5)", "set(8, 1, 5)", "set(9, 2, 1)", "clash(0, 1) = 8", "clash(0, 2) = 9",
            "clash(300, 1) = 8", "clash(300, 2) = 9");
        EDGES.sentence("of two or more the pair with the least lesser BAR,");
        String[] two = {"set(0, 1, 5)", "set(1, 1, 5)", "set(8, 1, 5)", "set(9, 1, 5)", "set(8, 2, 1)"};
        EDGES.run(two, "clash(0, 1) = 8", "set(1, 2, 1)", "clash(0, 1) = 0", "clash(0, 2) = 1", "clash(300, 1) = 0",
            "set(0, 0, 0)", "clash(0, 1) = 8", "clash(0, 2) = 9");
        // 0 and 1 STRIKE at 1 only: at 0 the other pair goes ahead, though its BARS are greater.
        EDGES.run(two, "set(1, 2, 1)", "set(1, 0, 55)", "move(1, 0, 56, 1)", "clash(0, 1) = 8", "clash(1, 1) = 0");
        EDGES.sentence("of such with the least other one;");
        EDGES.run("set(0, 1, 5)", "set(0, 2, 3)", "set(3, 1, 5)", "clash(0, 2) = 3", "set(2, 1, 5)", "clash(0, 2) = 2",
            "set(1, 1, 5)", "clash(0, 2) = 1", "clash(0, 1) = 0", "set(6, 1, 5)", "set(6, 2, 3)", "clash(0, 2) = 1",
            "set(1, 1, 0)", "set(2, 1, 0)", "set(3, 1, 0)", "clash(0, 2) = 6", "clash(0, 1) = 0");
        EDGES.sentence("NONE: there is none.");
        EDGES.run("clash(0, 0) = NONE", "clash(0, 1) = NONE", "clash(0, 2) = NONE", "clash(300, 0) = NONE");
        EDGES.run(ALWAYS, "move(1, 200, 50, 1)", "clash(209, 0) = 209", "clash(209, 1) = 0", "clash(209, 2) = 1",
            "clash(210, 0) = NONE", "clash(210, 1) = NONE", "clash(210, 2) = NONE", "clash(300, 1) = NONE");
    }

    private static void clashRefuses() {
        EDGES.sentence("OUTSIDE: both.");
        for (int what = 0; what < 3; what++) {
            EDGES.refusedAnywhere("OUTSIDE", Edges.each("clash(?, " + what + ")", "-1", "301", "MIN", "MAX"));
        }
        EDGES.refusedAnywhere("OUTSIDE", Edges.each("clash(0, ?)", "-1", "3", "MIN", "MAX"));
        EDGES.refusedAnywhere("OUTSIDE", Edges.each("clash(300, ?)", "-1", "3", "MIN", "MAX"));
        EDGES.refusedAnywhere("OUTSIDE", "clash(301, 3)", "clash(MIN, MAX)");
    }

    private static void oftenCounts() {
        EDGES.heading("Promise 15: often");
        EDGES.plain("`int often(int one, int other)`:");
        EDGES.sentence("At how many TIMES, 0 to 300, two BARS STRIKE.");
        EDGES.run("often(0, 1) = 0", "often(9, 0) = 0", ALWAYS, "often(0, 1) = 301", "often(1, 0) = 301",
            "often(0, 2) = 0", "often(1, 2) = 0");
        EDGES.run(LATE, "often(0, 1) = 41", "often(1, 0) = 41");
        // At 0 alone.
        EDGES.run("set(0, 0, 0)", "set(0, 1, 10)", "set(0, 2, 1)", "set(1, 0, 0)", "set(1, 1, 1)", "move(1, 0, 60, 1)",
            "often(0, 1) = 1", "shift(0, 200)", "often(0, 1) = 201");
        // At all TIMES but 0.
        EDGES.run("set(9, 0, 0)", "set(9, 1, 10)", "set(9, 2, 1)", "set(8, 0, 1)", "set(8, 1, 1)", "move(8, 0, 0, 5)",
            "often(9, 8) = 300");
    }

    private static void oftenRefuses() {
        EDGES.sentence("UNKNOWN: both;");
        EDGES.refusedAnywhere("UNKNOWN", Edges.each("often(?, 0)", NO_BARS));
        EDGES.refusedAnywhere("UNKNOWN", Edges.each("often(0, ?)", NO_BARS));
        EDGES.refusedAnywhere("UNKNOWN", Edges.each("often(?, ?)", NO_BARS));
        EDGES.refusedAnywhere("UNKNOWN", "often(-1, 10)", "often(MAX, MIN)");
        EDGES.sentence("OUTSIDE: they are one.");
        EDGES.refusedAnywhere("OUTSIDE", Edges.each("often(?, ?)", "0", "1", "8", "9"));
    }
}
