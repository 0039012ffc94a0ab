import java.io.IOException;

/** The boundary cases of promises 16 and 17, sentence by sentence. */
public final class HandsEdgesTest {
    private static final Edges EDGES = new Edges("HandsEdgesTest");

    public static void main(String[] args) throws IOException {
        handsTells();
        handsTellsTheMostAtOnce();
        handsRefuses();
        crewTells();
        crewTellsNone();
        crewRefuses();
        EDGES.close(args);
    }

    /** MOVES of all BARS, all at one TIME. */
    private static String[] atOnce() {
        String[] rows = new String[10];
        for (int i = 0; i < 10; i++) {
            rows[i] = "move(" + i + ", 200, 0, 1)";
        }
        return rows;
    }

    /** Ten MOVES of one BAR, each later than those of greater numbers. */
    private static String[] ofOneBar() {
        String[] rows = new String[10];
        for (int i = 0; i < 10; i++) {
            rows[i] = "move(9, " + (200 - i) + ", " + 6 * i + ", 5)";
        }
        return rows;
    }

    private static void handsTells() {
        EDGES.heading("Promise 16: hands");
        EDGES.plain("`int hands(int what)`:");
        EDGES.sentence("THE HANDS (what = 0),");
        EDGES.run("hands(0) = 0", "move(0, 0, 60, 1)", "hands(0) = 1", "load(0, 0, 21)", "hands(0) = 0");
        EDGES.run(atOnce(), "hands(0) = 10", "drop(9)", "hands(0) = 9");
        EDGES.run(ofOneBar(), "hands(0) = 1", "load(9, 0, 21)", "hands(0) = 0");
        EDGES.sentence("how many MOVES can be done (1),");
        EDGES.run("hands(1) = 0", "move(0, 0, 60, 1)", "hands(1) = 1", "load(0, 0, 20)", "hands(1) = 1", "load(0, 0, 1)",
            "hands(1) = 0");
        EDGES.run(atOnce(), "hands(1) = 10", "load(0, 0, 21)", "load(9, 1, 21)", "hands(1) = 8", "set(5, 3, 21)",
            "hands(1) = 10", "move(0, 0, 0, 1) = FULL", "hands(1) = 10");
        EDGES.run(ofOneBar(), "hands(1) = 10", "load(9, 1, 21)", "hands(1) = 0");
    }

    private static void handsTellsTheMostAtOnce() {
        EDGES.sentence("the most MOVES that can be done of which the TIME at which they begin is no greater, "
            + "and that at which they END is greater, than one and the same TIME (2).");
        EDGES.run("hands(2) = 0", "move(0, 0, 60, 1)", "hands(2) = 0", "move(0, 1, 59, 1)", "hands(2) = 1",
            "load(0, 0, 21)", "hands(2) = 0");
        EDGES.run(atOnce(), "hands(2) = 10", "load(5, 0, 21)", "hands(2) = 9");
        EDGES.run(ofOneBar(), "hands(2) = 1");
        // The first from 0 to 12; the second begins as it ENDS, then one ahead of that.
        EDGES.run("move(0, 0, 0, 5)", "move(9, 12, 0, 5)", "hands(2) = 1", "shift(1, -1)", "hands(2) = 2",
            "shift(1, -11)", "hands(2) = 2", "shift(1, 200)", "hands(2) = 1");
        // All three together at one TIME alone: 11, as the last one begins, one ahead of the first one's END.
        EDGES.run("move(0, 0, 0, 5)", "move(4, 5, 0, 5)", "move(9, 11, 0, 5)", "hands(2) = 3", "shift(2, 1)",
            "hands(2) = 2");
    }

    private static void handsRefuses() {
        EDGES.sentence("OUTSIDE.");
        EDGES.refusedAnywhere("OUTSIDE", Edges.each("hands(?)", "-1", "3", "MIN", "MAX"));
    }

    private static void crewTells() {
        EDGES.heading("Promise 17: crew");
        EDGES.plain("`int crew(int h, int k)`:");
        EDGES.sentence("The k-th MOVE that hand h (0 to 9) of THE CREW does,");
        EDGES.run(atOnce(), "crew(-1, 0) = OUTSIDE", "crew(0, 0) = 0", "crew(1, 0) = 1", "crew(8, 0) = 8",
            "crew(9, 0) = 9", "crew(10, 0) = OUTSIDE");
        EDGES.sentence("by the TIMES at which they begin, from 0 on;");
        EDGES.run(ofOneBar(), "crew(0, 0) = 9", "crew(0, 1) = 8", "crew(0, 8) = 1", "crew(0, 9) = 0",
            "crew(0, 10) = NONE", "shift(0, -200)", "crew(0, 0) = 0", "crew(0, 1) = 9", "crew(0, 9) = 1");
        EDGES.run("move(0, 10, 60, 1)", "move(0, 9, 60, 1)", "crew(0, 0) = 1", "crew(0, 1) = 0", "shift(1, 2)",
            "crew(0, 0) = 0", "crew(0, 1) = 1");
    }

    private static void crewTellsNone() {
        EDGES.sentence("NONE: there is none such (k below 0, too).");
        EDGES.run("crew(0, 0) = NONE", "crew(9, 0) = NONE", "crew(0, -1) = NONE", "crew(0, MIN) = NONE",
            "crew(0, MAX) = NONE", "move(0, 0, 0, 1)", "crew(0, 0) = 0", "crew(0, 1) = NONE", "crew(0, -1) = NONE",
            "crew(0, MIN) = NONE", "crew(0, MAX) = NONE", "crew(1, 0) = NONE", "crew(9, 0) = NONE", "load(0, 0, 21)",
            "crew(0, 0) = NONE", "crew(0, -1) = NONE");
        EDGES.run(atOnce(), "crew(9, 0) = 9", "crew(9, 1) = NONE", "crew(9, -1) = NONE", "crew(9, 9) = NONE",
            "crew(9, MIN) = NONE", "crew(9, MAX) = NONE");
        EDGES.run(ofOneBar(), "crew(0, 9) = 0", "crew(0, 10) = NONE", "crew(0, -1) = NONE", "crew(1, 0) = NONE",
            "crew(0, MAX) = NONE", "crew(0, MIN) = NONE");
    }

    private static void crewRefuses() {
        EDGES.sentence("OUTSIDE: h.");
        EDGES.refusedAnywhere("OUTSIDE", Edges.each("crew(?, 0)", "-1", "10", "-6", "MIN", "MAX"));
        EDGES.refusedAnywhere("OUTSIDE", Edges.each("crew(?, -1)", "-1", "10", "-6", "MIN", "MAX"));
    }
}
