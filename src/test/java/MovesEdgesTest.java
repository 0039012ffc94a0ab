import java.io.IOException;

/** The boundary cases of promises 8 to 12, sentence by sentence. */
public final class MovesEdgesTest {
    private static final Edges EDGES = new Edges("MovesEdgesTest");
    private static final String[] NO_BARS = {"-1", "10", "MIN", "MAX"};

    public static void main(String[] args) throws IOException {
        moveAdds();
        moveRefuses();
        moveIsTaken();
        moveIsFull();
        dropDrops();
        shiftShifts();
        shiftRefuses();
        toldTellsWhatWasGiven();
        toldTellsTheWay();
        toldTellsCuts();
        toldTellsTheHand();
        toldRefuses();
        heightTells();
        heightRefuses();
        EDGES.close(args);
    }

    /** Ten MOVES, of BARS 0 to 9, each at 10 times its number. */
    private static String[] ten() {
        String[] rows = new String[10];
        for (int i = 0; i < 10; i++) {
            rows[i] = "move(" + i + ", " + 10 * i + ", " + (50 + i) + ", " + (1 + i % 5) + ")";
        }
        return rows;
    }

    private static void moveAdds() {
        EDGES.heading("Promise 8: move");
        EDGES.plain("`int move(int bar, int time, int height, int pace)`:");
        EDGES.sentence("A MOVE more: its number.");
        EDGES.run("count(0) = 0", "move(0, 0, 0, 1) = 0", "count(0) = 1", "move(9, 200, 60, 5) = 1", "count(0) = 2",
            "told(0, 0) = 0", "told(0, 1) = 0", "told(0, 2) = 0", "told(0, 3) = 1",
            "told(1, 0) = 9", "told(1, 1) = 200", "told(1, 2) = 60", "told(1, 3) = 5", "told(2, 0) = UNKNOWN",
            "drop(0)", "move(0, 0, 0, 1) = 1");
        String[] numbered = ten();
        for (int i = 0; i < 10; i++) {
            numbered[i] += " = " + i;
        }
        EDGES.run((Object) numbered);
    }

    private static void moveRefuses() {
        EDGES.sentence("UNKNOWN;");
        EDGES.refusedAnywhere("UNKNOWN", Edges.each("move(?, 50, 30, 3)", NO_BARS));
        EDGES.sentence("OUTSIDE: the TIME, the HEIGHT, the PACE;");
        EDGES.refusedAnywhere("OUTSIDE", Edges.each("move(3, ?, 30, 3)", "-1", "201", "300", "MIN", "MAX"));
        EDGES.refusedAnywhere("OUTSIDE", Edges.each("move(3, 50, ?, 3)", "-1", "61", "MIN", "MAX"));
        EDGES.refusedAnywhere("OUTSIDE", Edges.each("move(3, 50, 30, ?)", "0", "-1", "6", "MIN", "MAX"));
        EDGES.refusedAnywhere("OUTSIDE", "move(3, 201, 61, 3)", "move(3, -1, 30, 0)", "move(3, 50, 61, 6)",
            "move(3, MIN, MIN, MIN)", "move(3, MAX, MAX, MAX)");
    }

    private static void moveIsTaken() {
        EDGES.sentence("NO: a MOVE of this BAR begins at this TIME;");
        // BUSY: MOVES of BAR 0 at 100 and 120, of 9 at 200, of 4 at 7.
        EDGES.refused("NO", Scenes.BUSY, "move(0, 100, 0, 1)", "move(0, 100, 60, 5)", "move(0, 120, 60, 5)",
            "move(9, 200, 0, 1)", "move(4, 7, 30, 3)");
        EDGES.run(Scenes.BUSY, "move(0, 99, 0, 1) = 4", "move(0, 101, 0, 1) = 5", "move(1, 100, 0, 1) = 6",
            "move(9, 199, 0, 1) = 7");
        EDGES.run("move(0, 0, 0, 1) = 0", "move(0, 0, 0, 1) = NO", "move(0, 1, 0, 1) = 1", "move(1, 0, 0, 1) = 2",
            "shift(0, 5)", "move(0, 0, 0, 1) = 3", "move(0, 5, 0, 1) = NO", "drop(0)", "move(0, 5, 0, 1) = 3");
    }

    private static void moveIsFull() {
        EDGES.sentence("FULL: there are 10.");
        EDGES.refused("FULL", Scenes.FULL, "move(3, 50, 30, 3)", "move(0, 199, 0, 1)", "move(9, 0, 60, 5)");
        EDGES.run(ten(), "move(0, 1, 0, 1) = FULL", "count(0) = 10", "drop(4) = 9", "move(0, 1, 0, 1) = 9",
            "move(0, 2, 0, 1) = FULL", "told(9, 1) = 1");
    }

    private static void dropDrops() {
        EDGES.heading("Promise 9: drop");
        EDGES.plain("`int drop(int move)`:");
        EDGES.sentence("A MOVE goes: how many there are.");
        EDGES.run(ten(), "drop(9) = 9", "told(8, 0) = 8", "told(9, 0) = UNKNOWN", "drop(0) = 8", "told(0, 0) = 1",
            "told(7, 0) = 8", "drop(3) = 7", "told(2, 0) = 3", "told(3, 0) = 5", "told(6, 0) = 8",
            Edges.times(6, "drop(0)"), "told(0, 0) = 8", "drop(0) = 0", "count(0) = 0", "drop(0) = UNKNOWN");
        EDGES.sentence("UNKNOWN.");
        EDGES.refusedAnywhere("UNKNOWN", Edges.each("drop(?)", "-1", "10", "MIN", "MAX"));
        EDGES.refused("UNKNOWN", Scenes.NEW, "drop(0)", "drop(9)");
        EDGES.refused("UNKNOWN", Scenes.BUSY, "drop(4)", "drop(9)");
        EDGES.run(Scenes.BUSY, "drop(3) = 3", "drop(3) = UNKNOWN");
    }

    private static void shiftShifts() {
        EDGES.heading("Promise 10: shift");
        EDGES.plain("`int shift(int move, int by)`:");
        EDGES.sentence("A MOVE begins so much later (below 0: earlier): the TIME.");
        EDGES.run("move(9, 100, 0, 1)", "shift(0, 0) = 100", "shift(0, 1) = 101", "shift(0, -1) = 100",
            "shift(0, 100) = 200", "shift(0, 0) = 200", "shift(0, -200) = 0", "told(0, 1) = 0", "shift(0, 0) = 0",
            "shift(0, 200) = 200", "told(0, 1) = 200", "told(0, 0) = 9", "told(0, 2) = 0", "told(0, 3) = 1");
        EDGES.run(ten(), "shift(9, 1) = 91", "shift(0, 3) = 3", "told(9, 1) = 91", "told(0, 1) = 3", "told(8, 1) = 80",
            "told(1, 1) = 10", "count(0) = 10");
    }

    private static void shiftRefuses() {
        EDGES.sentence("UNKNOWN;");
        EDGES.refusedAnywhere("UNKNOWN", Edges.each("shift(?, 1)", "-1", "10", "MIN", "MAX"));
        EDGES.refused("UNKNOWN", Scenes.NEW, "shift(0, 0)", "shift(9, 0)");
        EDGES.refused("UNKNOWN", Scenes.BUSY, "shift(4, 0)", "shift(9, 0)");
        EDGES.sentence("OUTSIDE: it would begin below 0, or behind 200;");
        // BUSY: MOVE 0 begins at 100, 2 at 200, 3 at 7.
        EDGES.refused("OUTSIDE", Scenes.BUSY, Edges.each("shift(0, ?)", "-101", "101", "MIN", "MAX", "-2147483549",
            "2147483547", "2147483548"));
        EDGES.refused("OUTSIDE", Scenes.BUSY, Edges.each("shift(2, ?)", "-201", "1", "MIN", "MAX", "2147483447"));
        EDGES.refused("OUTSIDE", Scenes.BUSY, Edges.each("shift(3, ?)", "-8", "194", "MIN", "MAX"));
        EDGES.run(Scenes.BUSY, "shift(0, -100) = 0", "shift(2, -200) = 0", "shift(3, 193) = 200", "shift(3, -200) = 0",
            "shift(3, -1) = OUTSIDE", "shift(3, MIN) = OUTSIDE", "shift(3, 200) = 200", "shift(3, MAX) = OUTSIDE");
        EDGES.sentence("NO: another MOVE of its BAR begins then.");
        EDGES.refused("NO", Scenes.BUSY, "shift(0, 20)", "shift(1, -20)");
        EDGES.run(Scenes.BUSY, "shift(0, 0) = 100", "shift(0, 19) = 119", "shift(1, -1) = NO", "shift(0, 2) = 121",
            "shift(1, 1) = NO", "shift(1, 2) = 122", "shift(2, -80) = 120", "shift(2, 2) = 122");
        EDGES.run("move(0, 0, 0, 1)", "move(0, 200, 0, 1)", "shift(0, 200) = NO", "shift(1, -200) = NO",
            "shift(1, -199) = 1", "shift(0, 200) = 200");
    }

    private static void toldTellsWhatWasGiven() {
        EDGES.heading("Promise 11: told");
        EDGES.plain("`int told(int move, int what)`: Of a MOVE:");
        EDGES.sentence("its BAR (what = 0), TIME (1), HEIGHT to which it goes (2), PACE (3),");
        EDGES.run("move(0, 0, 0, 1)", "move(9, 200, 60, 5)", "told(0, 0) = 0", "told(0, 1) = 0", "told(0, 2) = 0",
            "told(0, 3) = 1", "told(1, 0) = 9", "told(1, 1) = 200", "told(1, 2) = 60", "told(1, 3) = 5");
        EDGES.run(ten(), "told(9, 0) = 9", "told(9, 1) = 90", "told(9, 2) = 59", "told(9, 3) = 5", "told(0, 0) = 0");
    }

    private static void toldTellsTheWay() {
        EDGES.sentence("when it ENDS (4),");
        EDGES.run("move(0, 0, 60, 5)", "move(1, 200, 0, 1)", "move(2, 200, 0, 5)", "move(3, 200, 60, 1)",
            "move(4, 0, 55, 5)", "move(5, 0, 54, 5)", "move(6, 0, 56, 5)", "told(0, 4) = 0", "told(1, 4) = 260",
            "told(2, 4) = 212", "told(3, 4) = 200", "told(4, 4) = 1", "told(5, 4) = 2", "told(6, 4) = 1");
        EDGES.sentence("the HEIGHT of the BAR as it begins (5),");
        EDGES.run("move(0, 0, 0, 5)", "told(0, 5) = 60", "set(0, 0, 0)", "told(0, 5) = 0", "set(0, 0, 59)",
            "told(0, 5) = 59", "move(0, 1, 60, 1)", "told(1, 5) = 54", "move(0, 200, 60, 1)", "told(2, 5) = 60",
            "shift(1, 10)", "told(1, 5) = 4", "shift(1, 1)", "told(1, 5) = 0");
        EDGES.sentence("as it ENDS (6),");
        EDGES.run("move(0, 0, 0, 5)", "told(0, 6) = 0", "move(0, 1, 60, 1)", "told(0, 6) = 55", "told(1, 6) = 60",
            "shift(1, 10)", "told(0, 6) = 5", "shift(1, 1)", "told(0, 6) = 0", "move(0, 200, 1, 1)", "told(2, 6) = 1",
            "move(1, 9, 60, 1)", "told(3, 6) = 60");
    }

    private static void toldTellsCuts() {
        EDGES.sentence("whether it is CUT (7: 1, 0),");
        // From 60 to 50 by 5: it ENDS at 12.
        EDGES.run("move(0, 10, 50, 5)", "told(0, 7) = 0", "move(0, 11, 0, 1)", "told(0, 7) = 1", "told(1, 7) = 0",
            "shift(1, 1)", "told(0, 7) = 0", "shift(1, 1)", "told(0, 7) = 0", "shift(1, -4)", "told(0, 1) = 10",
            "told(1, 7) = 1", "told(0, 7) = 0", "drop(0)", "told(0, 7) = 0");
        // One of another BAR cuts nothing.
        EDGES.run("move(0, 10, 50, 5)", "move(1, 11, 0, 1)", "told(0, 7) = 0", "told(1, 7) = 0");
        // At its HEIGHT as it begins: nothing can begin behind it and ahead of that.
        EDGES.run("move(0, 10, 60, 5)", "move(0, 11, 0, 1)", "told(0, 7) = 0", "told(0, 4) = 10");
    }

    private static void toldTellsTheHand() {
        EDGES.sentence("the hand of THE CREW that does it (8;");
        String[] atOnce = new String[10];
        for (int i = 0; i < 10; i++) {
            atOnce[i] = "move(" + i + ", 5, 0, 1)";
        }
        EDGES.run(atOnce, "told(0, 8) = 0", "told(1, 8) = 1", "told(8, 8) = 8", "told(9, 8) = 9", "drop(0)",
            "told(0, 8) = 0", "told(8, 8) = 8");
        EDGES.sentence("NONE: it cannot be done).");
        EDGES.run("move(0, 5, 0, 1)", "move(1, 5, 0, 1)", "load(0, 0, 20)", "told(0, 8) = 0", "told(1, 8) = 1",
            "load(0, 0, 1)", "told(0, 8) = NONE", "told(1, 8) = 0", "load(1, 1, 21)", "told(1, 8) = NONE",
            "set(0, 3, 21)", "told(0, 8) = 0", "told(1, 8) = 1");
    }

    private static void toldRefuses() {
        EDGES.sentence("UNKNOWN;");
        for (int what = 0; what < 9; what++) {
            EDGES.refusedAnywhere("UNKNOWN", Edges.each("told(?, " + what + ")", "-1", "10", "MIN", "MAX"));
            EDGES.refused("UNKNOWN", Scenes.NEW, Edges.each("told(?, " + what + ")", "0", "9"));
            EDGES.refused("UNKNOWN", Scenes.BUSY, Edges.each("told(?, " + what + ")", "4", "9"));
        }
        EDGES.sentence("OUTSIDE.");
        EDGES.refused("OUTSIDE", Scenes.BUSY, Edges.each("told(3, ?)", "-1", "9", "10", "MIN", "MAX"));
        EDGES.refused("OUTSIDE", Scenes.FULL, Edges.each("told(9, ?)", "-1", "9", "10", "MIN", "MAX"));
    }

    private static void heightTells() {
        EDGES.heading("Promise 12: height");
        EDGES.plain("`int height(int bar, int time)`:");
        EDGES.sentence("The HEIGHT of a BAR at a TIME (0 to 300).");
        EDGES.run("height(0, 0) = 60", "height(9, 300) = 60", "set(9, 0, 0)", "height(9, 0) = 0", "height(9, 300) = 0",
            "height(0, -1) = OUTSIDE", "height(0, 301) = OUTSIDE");
        EDGES.run("move(5, 0, 0, 1)", "height(5, 0) = 60", "height(5, 1) = 59", "height(5, 59) = 1", "height(5, 60) = 0",
            "height(5, 61) = 0", "height(5, 300) = 0", "move(5, 200, 60, 1)", "height(5, 200) = 0", "height(5, 201) = 1",
            "height(5, 259) = 59", "height(5, 260) = 60", "height(5, 300) = 60", "height(4, 60) = 60",
            "height(6, 60) = 60");
    }

    private static void heightRefuses() {
        EDGES.sentence("UNKNOWN;");
        EDGES.refusedAnywhere("UNKNOWN", Edges.each("height(?, 0)", NO_BARS));
        EDGES.refusedAnywhere("UNKNOWN", Edges.each("height(?, 300)", NO_BARS));
        EDGES.sentence("OUTSIDE.");
        EDGES.refusedAnywhere("OUTSIDE", Edges.each("height(0, ?)", "-1", "301", "MIN", "MAX"));
        EDGES.refusedAnywhere("OUTSIDE", Edges.each("height(9, ?)", "-1", "301", "MIN", "MAX"));
    }
}
