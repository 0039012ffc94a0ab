import java.io.IOException;

/** The boundary cases of promises 1 to 7, sentence by sentence. */
public final class BarsEdgesTest {
    private static final Edges EDGES = new Edges("BarsEdgesTest");
    private static final String[] NO_BARS = {"-1", "10", "MIN", "MAX"};

    public static void main(String[] args) throws IOException {
        newObject();
        setSets();
        setRefuses();
        loadLoads();
        loadRefuses();
        takeTakes();
        takeRefuses();
        barTells();
        barTellsWeights();
        barRefuses();
        loadingTells();
        loadingRefuses();
        loadingsCounts();
        EDGES.close(args);
    }

    private static void newObject() {
        EDGES.heading("Promise 1: A new object");
        EDGES.plain("`StageLines()`:");
        EDGES.sentence("Ten BARS,");
        EDGES.run("bar(-1, 0) = UNKNOWN", "bar(0, 0) = 60", "bar(9, 0) = 60", "bar(10, 0) = UNKNOWN", "count(2) = 10");
        EDGES.sentence("HOME 60,");
        for (int b = 0; b < 10; b++) {
            EDGES.let("b", b);
            EDGES.run("bar(b, 0) = 60", "height(b, 0) = 60", "height(b, 300) = 60", "set(b, 0, 59) = 60");
        }
        EDGES.sentence("nothing loaded;");
        for (int b = 0; b < 10; b++) {
            EDGES.let("b", b);
            EDGES.run("bar(b, 3) = 0", "bar(b, 4) = 0", "bar(b, 5) = 0", "bar(b, 6) = 0", "bar(b, 7) = 1",
                "bar(b, 10) = NONE", "bar(b, 15) = NONE", "bar(b, 20) = NONE", "bar(b, 25) = NONE",
                "take(b, 0, 0) = NO", "take(b, 1, 0) = NO", "loading(b, -1) = 0", "loading(b, 0) = NONE",
                "loadings(b) = 1", "load(b, 0, 1) = 1", "load(b, 1, 1) = 1");
        }
        EDGES.sentence("no MOVE,");
        EDGES.run("count(0) = 0", "count(4) = NONE", "drop(0) = UNKNOWN", "shift(0, 0) = UNKNOWN",
            "told(0, 0) = UNKNOWN", "told(0, 8) = UNKNOWN", "bar(0, 8) = 0", "bar(9, 8) = 0", "hands(0) = 0",
            "hands(1) = 0", "hands(2) = 0", "crew(0, 0) = NONE", "crew(9, 0) = NONE", "move(9, 200, 0, 1) = 0");
        EDGES.sentence("no IMAGE.");
        EDGES.run("count(5) = 0", "restore(0) = STATE", "restore(1) = STATE");
    }

    private static void setSets() {
        EDGES.heading("Promise 2: set");
        EDGES.plain("`int set(int bar, int what, int n)`:");
        EDGES.sentence("HOME (what = 0), DROP (1), REACH (2) of a BAR, or SWAY (3;");
        EDGES.run("set(4, 0, 1)", "bar(4, 0) = 1", "bar(4, 1) = 0", "bar(4, 2) = 0", "count(1) = 20");
        EDGES.run("set(4, 1, 1)", "bar(4, 0) = 60", "bar(4, 1) = 1", "bar(4, 2) = 0", "count(1) = 20");
        EDGES.run("set(4, 2, 1)", "bar(4, 0) = 60", "bar(4, 1) = 0", "bar(4, 2) = 1", "count(1) = 20");
        EDGES.run("set(4, 3, 1)", "bar(4, 0) = 60", "bar(4, 1) = 0", "bar(4, 2) = 0", "count(1) = 1");
        for (String what : new String[] {"0", "1", "2"}) {
            EDGES.run("set(0, " + what + ", 3)", "set(9, " + what + ", 2)", "bar(0, " + what + ") = 3",
                "bar(9, " + what + ") = 2", "set(8, " + what + ", 3) = " + (what.equals("0") ? "60" : "0"));
        }
        EDGES.sentence("the BAR is no matter, but has to be one)");
        EDGES.run("set(0, 3, 1) = 20", "set(9, 3, 2) = 1", "set(5, 3, 3) = 2", "count(1) = 3", "set(10, 3, 4) = UNKNOWN",
            "set(-1, 3, 4) = UNKNOWN", "set(MIN, 3, 4) = UNKNOWN", "set(MAX, 3, 4) = UNKNOWN", "count(1) = 3");
        EDGES.sentence(", is n: which it was.");
        int[] first = {60, 0, 0, 20};
        int[] greatest = {60, 40, 3, 100};
        for (int what = 0; what < 4; what++) {
            EDGES.let("w", what);
            EDGES.let("first", first[what]);
            EDGES.let("greatest", greatest[what]);
            EDGES.run("set(6, w, 0) = first", "set(6, w, 0) = 0", "set(6, w, greatest) = 0",
                "set(6, w, greatest) = greatest", "set(6, w, 1) = greatest", "set(6, w, -1) = OUTSIDE",
                "set(6, w, 1) = 1");
        }
    }

    private static void setRefuses() {
        EDGES.sentence("UNKNOWN;");
        for (int what = 0; what < 4; what++) {
            EDGES.refusedAnywhere("UNKNOWN", Edges.each("set(?, " + what + ", 2)", NO_BARS));
        }
        EDGES.sentence("OUTSIDE: both.");
        EDGES.refusedAnywhere("OUTSIDE", Edges.each("set(0, ?, 0)", "-1", "4", "MIN", "MAX"));
        EDGES.refusedAnywhere("OUTSIDE", Edges.each("set(9, 0, ?)", "-1", "61", "MIN", "MAX"));
        EDGES.refusedAnywhere("OUTSIDE", Edges.each("set(9, 1, ?)", "-1", "41", "MIN", "MAX"));
        EDGES.refusedAnywhere("OUTSIDE", Edges.each("set(9, 2, ?)", "-1", "4", "MIN", "MAX"));
        EDGES.refusedAnywhere("OUTSIDE", Edges.each("set(9, 3, ?)", "-1", "101", "MIN", "MAX"));
        EDGES.refusedAnywhere("OUTSIDE", "set(0, 4, -1)", "set(0, -1, 101)", "set(0, MIN, MAX)");
    }

    private static void loadLoads() {
        EDGES.heading("Promise 3: load");
        EDGES.plain("`int load(int bar, int side, int weight)`:");
        EDGES.sentence("A BAR has a PIECE (side = 0), a BRICK (1) of a WEIGHT more:");
        EDGES.run("load(0, 0, 1)", "bar(0, 3) = 1", "bar(0, 4) = 0", "bar(0, 10) = 1", "bar(0, 20) = NONE",
            "bar(1, 3) = 0");
        EDGES.run("load(9, 1, 50)", "bar(9, 3) = 0", "bar(9, 4) = 1", "bar(9, 10) = NONE", "bar(9, 20) = 50",
            "bar(8, 4) = 0");
        EDGES.sentence("how many of these it has.");
        for (int side = 0; side < 2; side++) {
            EDGES.let("s", side);
            EDGES.let("t", 1 - side);
            EDGES.run("load(5, s, 9) = 1", "load(5, s, 9) = 2", "load(5, t, 9) = 1", "load(6, s, 9) = 1",
                "load(5, s, 9) = 3", "load(5, s, 9) = 4", "load(5, s, 9) = 5", "load(5, s, 9) = 6", "take(5, s, 0) = 9",
                "load(5, s, 9) = 6", "load(5, t, 9) = 2");
        }
    }

    private static void loadRefuses() {
        EDGES.sentence("UNKNOWN;");
        EDGES.refusedAnywhere("UNKNOWN", Edges.each("load(?, 0, 1)", NO_BARS));
        EDGES.refusedAnywhere("UNKNOWN", Edges.each("load(?, 1, 50)", NO_BARS));
        EDGES.sentence("OUTSIDE: both;");
        EDGES.refusedAnywhere("OUTSIDE", Edges.each("load(3, ?, 1)", "-1", "2", "MIN", "MAX"));
        EDGES.refusedAnywhere("OUTSIDE", Edges.each("load(3, 0, ?)", "0", "-1", "51", "MIN", "MAX"));
        EDGES.refusedAnywhere("OUTSIDE", Edges.each("load(3, 1, ?)", "0", "-1", "51", "MIN", "MAX"));
        EDGES.refusedAnywhere("OUTSIDE", "load(3, 2, 0)", "load(3, -1, 51)", "load(3, MIN, MAX)");
        EDGES.sentence("FULL: it has 6 of these.");
        EDGES.refused("FULL", Scenes.FULL, "load(0, 0, 1)", "load(0, 0, 50)", "load(0, 1, 1)", "load(0, 1, 50)",
            "load(9, 0, 1)", "load(9, 1, 50)");
        for (int side = 0; side < 2; side++) {
            EDGES.let("s", side);
            EDGES.let("t", 1 - side);
            EDGES.run(Edges.times(5, "load(2, s, 50)"), "load(2, s, 50) = 6", "load(2, s, 50) = FULL",
                "load(2, t, 50) = 1", "load(1, s, 50) = 1", "load(3, s, 50) = 1", "take(2, s, 5) = 50",
                "load(2, s, 1) = 6", "load(2, s, 1) = FULL");
        }
    }

    private static void takeTakes() {
        EDGES.heading("Promise 4: take");
        EDGES.plain("`int take(int bar, int side, int k)`:");
        EDGES.sentence("A PIECE (side = 0), a BRICK (1) of a BAR goes: its WEIGHT.");
        for (int side = 0; side < 2; side++) {
            EDGES.let("s", side);
            EDGES.let("t", 1 - side);
            EDGES.let("n", 3 + side);
            String[] six = {"load(9, t, 7)", "load(8, s, 8)", "load(9, s, 1)", "load(9, s, 11)", "load(9, s, 21)",
                "load(9, s, 31)", "load(9, s, 41)", "load(9, s, 50)"};
            EDGES.run(six, "take(9, s, 0) = 1", "bar(9, n) = 5", "take(9, s, 0) = 11", "take(9, s, 0) = 21",
                "take(9, s, 0) = 31", "take(9, s, 0) = 41", "take(9, s, 0) = 50", "bar(9, n) = 0",
                "take(9, s, 0) = NO", "take(9, t, 0) = 7", "take(8, s, 0) = 8");
            EDGES.run(six, "take(9, s, 5) = 50", "take(9, s, 5) = NO", "take(9, s, 4) = 41", "take(9, s, 3) = 31",
                "take(9, s, 2) = 21", "take(9, s, 1) = 11", "take(9, s, 0) = 1", "take(9, s, 0) = NO");
            EDGES.run(six, "take(9, s, 2) = 21", "take(9, s, 2) = 31", "take(9, s, 2) = 41", "take(9, s, 2) = 50",
                "take(9, s, 2) = NO", "take(9, s, 1) = 11");
        }
    }

    private static void takeRefuses() {
        EDGES.sentence("UNKNOWN;");
        EDGES.refusedAnywhere("UNKNOWN", Edges.each("take(?, 0, 0)", NO_BARS));
        EDGES.refusedAnywhere("UNKNOWN", Edges.each("take(?, 1, 0)", NO_BARS));
        EDGES.sentence("OUTSIDE: the side;");
        EDGES.refusedAnywhere("OUTSIDE", Edges.each("take(0, ?, 0)", "-1", "2", "MIN", "MAX"));
        EDGES.sentence("NO: there is none such.");
        EDGES.refusedAnywhere("NO", Edges.each("take(0, 0, ?)", "-1", "6", "MIN", "MAX"));
        EDGES.refusedAnywhere("NO", Edges.each("take(0, 1, ?)", "-1", "6", "MIN", "MAX"));
        EDGES.refusedAnywhere("NO", "take(7, 0, 0)", "take(7, 1, 0)");
        EDGES.refused("NO", Scenes.NEW, "take(0, 0, 0)", "take(0, 1, 0)", "take(9, 0, 5)", "take(9, 1, 5)");
        // BUSY: BAR 0 has PIECES 0 to 2 and BRICKS 0 and 1.
        EDGES.refused("NO", Scenes.BUSY, "take(0, 0, 3)", "take(0, 1, 2)", "take(0, 0, 5)", "take(0, 1, 5)");
        EDGES.run(Scenes.BUSY, "take(0, 0, 2) = 7", "take(0, 1, 1) = 9", "take(0, 0, 2) = NO", "take(0, 1, 1) = NO");
    }

    private static void barTells() {
        EDGES.heading("Promise 5: bar");
        EDGES.plain("`int bar(int bar, int what)`: Of a BAR:");
        EDGES.sentence("HOME (what = 0), DROP (1), REACH (2),");
        EDGES.run("bar(9, 0) = 60", "bar(9, 1) = 0", "bar(9, 2) = 0", "set(9, 0, 0)", "set(9, 1, 40)", "set(9, 2, 3)",
            "bar(9, 0) = 0", "bar(9, 1) = 40", "bar(9, 2) = 3", "bar(0, 0) = 60", "bar(0, 1) = 0", "bar(0, 2) = 0");
        EDGES.sentence("how many PIECES (3), BRICKS (4),");
        EDGES.run("bar(0, 3) = 0", "bar(0, 4) = 0", Edges.times(6, "load(0, 0, 1)"), "bar(0, 3) = 6", "bar(0, 4) = 0",
            Edges.times(6, "load(0, 1, 1)"), "bar(0, 3) = 6", "bar(0, 4) = 6", "load(0, 0, 1) = FULL",
            "bar(0, 3) = 6", "take(0, 0, 5)", "bar(0, 3) = 5", "bar(0, 4) = 6");
        EDGES.sentence("their WEIGHTS together (5, 6),");
        EDGES.run("bar(9, 5) = 0", "bar(9, 6) = 0", Edges.times(6, "load(9, 0, 50)"), "bar(9, 5) = 300", "bar(9, 6) = 0",
            Edges.times(6, "load(9, 1, 50)"), "bar(9, 6) = 300", "take(9, 1, 0)", "bar(9, 6) = 250", "bar(9, 5) = 300",
            "take(9, 0, 5)", "load(9, 0, 1)", "bar(9, 5) = 251");
        EDGES.sentence("whether it is EVEN (7: 1, 0),");
        EDGES.run("bar(0, 7) = 1", "load(0, 0, 20)", "bar(0, 7) = 1", "load(0, 0, 1)", "bar(0, 7) = 0", "load(0, 1, 1)",
            "bar(0, 7) = 1", "load(0, 1, 40)", "bar(0, 7) = 1", "load(0, 1, 1)", "bar(0, 7) = 0", "bar(1, 7) = 1");
        EDGES.sentence("how many MOVES it has (8);");
        String[] ten = new String[10];
        for (int i = 0; i < 10; i++) {
            ten[i] = "move(3, " + i + ", 0, 1)";
        }
        EDGES.run("bar(3, 8) = 0", ten, "bar(3, 8) = 10", "bar(2, 8) = 0", "bar(4, 8) = 0", "drop(9)", "bar(3, 8) = 9",
            "move(4, 0, 0, 1)", "bar(3, 8) = 9", "bar(4, 8) = 1", "drop(0)", "bar(3, 8) = 8", "bar(4, 8) = 1");
    }

    private static void barTellsWeights() {
        EDGES.sentence("the WEIGHT of PIECE k (10 and k), of BRICK k (20 and k), k being 0 to 5;");
        String[] twelve = new String[12];
        for (int k = 0; k < 6; k++) {
            twelve[k] = "load(0, 0, " + (1 + k) + ")";
            twelve[6 + k] = "load(0, 1, " + (50 - k) + ")";
        }
        EDGES.run(twelve, "bar(0, 9) = OUTSIDE", "bar(0, 10) = 1", "bar(0, 11) = 2", "bar(0, 14) = 5", "bar(0, 15) = 6",
            "bar(0, 16) = OUTSIDE", "bar(0, 19) = OUTSIDE", "bar(0, 20) = 50", "bar(0, 21) = 49", "bar(0, 24) = 46",
            "bar(0, 25) = 45", "bar(0, 26) = OUTSIDE");
        EDGES.sentence("NONE: there is no such PIECE, BRICK.");
        EDGES.run("bar(0, 10) = NONE", "bar(0, 15) = NONE", "bar(0, 20) = NONE", "bar(0, 25) = NONE", "load(0, 0, 7)",
            "bar(0, 10) = 7", "bar(0, 11) = NONE", "bar(0, 20) = NONE", "load(0, 1, 8)", "bar(0, 20) = 8",
            "bar(0, 21) = NONE", "take(0, 0, 0)", "bar(0, 10) = NONE", "take(0, 1, 0)", "bar(0, 20) = NONE");
        EDGES.run(twelve, "take(0, 0, 0)", "bar(0, 14) = 6", "bar(0, 15) = NONE", "bar(0, 25) = 45", "take(0, 1, 0)",
            "bar(0, 24) = 45", "bar(0, 25) = NONE");
    }

    private static void barRefuses() {
        EDGES.sentence("UNKNOWN;");
        EDGES.refusedAnywhere("UNKNOWN", Edges.each("bar(?, 0)", NO_BARS));
        EDGES.refusedAnywhere("UNKNOWN", Edges.each("bar(?, 8)", NO_BARS));
        EDGES.refusedAnywhere("UNKNOWN", Edges.each("bar(?, 10)", NO_BARS));
        EDGES.refusedAnywhere("UNKNOWN", Edges.each("bar(?, 25)", NO_BARS));
        EDGES.sentence("OUTSIDE: what is none of these.");
        EDGES.refusedAnywhere("OUTSIDE", Edges.each("bar(0, ?)", "-1", "9", "16", "17", "18", "19", "26", "27", "30",
            "-10", "MIN", "MAX"));
    }

    private static void loadingTells() {
        EDGES.heading("Promise 6: loading");
        EDGES.plain("`int loading(int bar, int k)`:");
        EDGES.sentence("The k-th of the first LOADING of a BAR, from 0 on");
        EDGES.run("load(9, 0, 1)", "loading(9, 0) = 0", "load(9, 1, 1)", "loading(9, 0) = 0", "loading(9, 1) = 10",
            "take(9, 0, 0)", "loading(9, 0) = 10");
        String[] twelve = Edges.join(Edges.times(6, "load(0, 0, 50)"), Edges.times(6, "load(0, 1, 50)"));
        EDGES.run("set(0, 3, 50)", twelve, "loading(0, 0) = 0", "loading(0, 1) = 10", "loading(0, 2) = 1",
            "loading(0, 9) = 14", "loading(0, 10) = 5", "loading(0, 11) = 15", "set(0, 3, 100)", "loading(0, 1) = 1",
            "loading(0, 2) = 10", "loading(0, 3) = 2", "loading(0, 4) = 11", "loading(0, 10) = 14",
            "loading(0, 11) = 15");
        EDGES.sentence("(k = -1: how many PIECES and BRICKS it has, together);");
        EDGES.run("loading(0, -1) = 0", "load(0, 0, 1)", "loading(0, -1) = 1", "load(0, 1, 1)", "loading(0, -1) = 2",
            "loading(1, -1) = 0");
        EDGES.run("set(0, 3, 50)", twelve, "loading(0, -1) = 12", "take(0, 0, 0)", "loading(0, -1) = 11");
        EDGES.sentence("NONE: there is no LOADING (whatever k is, if not below -1),");
        EDGES.run("load(0, 0, 21)", "loading(0, -1) = NONE", "loading(0, 0) = NONE", "loading(0, 1) = NONE",
            "loading(0, 11) = NONE", "loading(0, 12) = NONE", "loading(0, MAX) = NONE", "loading(0, -2) = OUTSIDE",
            "loading(0, MIN) = OUTSIDE", "loading(1, -1) = 0", "set(0, 3, 21)", "loading(0, -1) = 1",
            "loading(0, 0) = 0");
        EDGES.run("set(0, 3, 49)", twelve, "bar(0, 7) = 1", "loading(0, -1) = NONE", "loading(0, 0) = NONE",
            "loading(0, 11) = NONE", "loading(0, MAX) = NONE");
        EDGES.sentence("or it has no k-th one.");
        EDGES.run("loading(0, 0) = NONE", "loading(0, MAX) = NONE", "load(0, 0, 1)", "loading(0, 0) = 0",
            "loading(0, 1) = NONE", "loading(0, 10) = NONE", "loading(0, MAX) = NONE");
        EDGES.run("set(0, 3, 50)", twelve, "loading(0, 11) = 15", "loading(0, 12) = NONE", "loading(0, 31) = NONE",
            "loading(0, 32) = NONE", "loading(0, MAX) = NONE");
    }

    private static void loadingRefuses() {
        EDGES.sentence("UNKNOWN;");
        EDGES.refusedAnywhere("UNKNOWN", Edges.each("loading(?, -1)", NO_BARS));
        EDGES.refusedAnywhere("UNKNOWN", Edges.each("loading(?, 0)", NO_BARS));
        EDGES.sentence("OUTSIDE: k is below -1.");
        EDGES.refusedAnywhere("OUTSIDE", Edges.each("loading(0, ?)", "-2", "-3", "MIN"));
        EDGES.refusedAnywhere("OUTSIDE", Edges.each("loading(9, ?)", "-2", "-3", "MIN"));
    }

    private static void loadingsCounts() {
        EDGES.heading("Promise 7: loadings");
        EDGES.plain("`int loadings(int bar)`:");
        EDGES.sentence("How many LOADINGS a BAR has");
        EDGES.run("load(0, 0, 20)", "loadings(0) = 1", "load(0, 0, 1)", "loadings(0) = 0", "loadings(9) = 1",
            "load(0, 1, 1)", "loadings(0) = 4", "set(0, 3, 21)", "loadings(0) = 6", "set(0, 3, 18)", "loadings(0) = 0",
            "set(0, 3, 19)", "loadings(0) = 0");
        String[] light = Edges.join(Edges.times(6, "load(9, 0, 1)"), Edges.times(6, "load(9, 1, 1)"));
        EDGES.run("set(0, 3, 6)", light, "loadings(9) = 479001600", "set(0, 3, 1)", "loadings(9) = 33177600",
            "set(0, 3, 0)", "loadings(9) = 0");
        EDGES.sentence("(PIECES of one WEIGHT are unlike ones;");
        EDGES.run("load(0, 0, 1)", "load(0, 0, 1)", "loadings(0) = 2", "load(0, 0, 1)", "loadings(0) = 6",
            "load(1, 1, 1)", "load(1, 1, 1)", "loadings(1) = 2");
        EDGES.run(Edges.times(6, "load(0, 0, 1)"), "loadings(0) = 720");
        EDGES.sentence("with nothing to load it is 1).");
        EDGES.run("loadings(0) = 1", "loadings(9) = 1", "set(0, 3, 0)", "loadings(0) = 1", "load(0, 0, 1)",
            "loadings(0) = 0", "take(0, 0, 0)", "loadings(0) = 1");
        EDGES.sentence("UNKNOWN.");
        EDGES.refusedAnywhere("UNKNOWN", Edges.each("loadings(?)", NO_BARS));
    }
}
