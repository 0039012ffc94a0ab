import java.io.IOException;

/** The boundary cases of promises 18 to 20, sentence by sentence. */
public final class ImagesEdgesTest {
    private static final Edges EDGES = new Edges("ImagesEdgesTest");

    public static void main(String[] args) throws IOException {
        imageKeeps();
        imageRefuses();
        restoreBringsBack();
        restoreOfTheFullAndTheEmpty();
        restoreRefuses();
        countTells();
        countTellsPairs();
        countTellsTheLastEnd();
        countTellsImages();
        countRefuses();
        EDGES.close(args);
    }

    private static void imageKeeps() {
        EDGES.heading("Promise 18: image");
        EDGES.plain("`int image(int k)`:");
        EDGES.sentence("All but IMAGES is kept in an IMAGE (0, 1),");
        EDGES.run("image(-1) = OUTSIDE", "image(0) = 1", "image(1) = 1", "image(2) = OUTSIDE", "count(5) = 3");
        // What is kept is not what changes later, and keeping changes nothing that stands.
        EDGES.run("set(0, 0, 1)", "image(0)", "bar(0, 0) = 1", "set(0, 0, 2)", "image(1)", "set(0, 0, 3)",
            "restore(0)", "bar(0, 0) = 1", "restore(1)", "bar(0, 0) = 2", "count(5) = 3");
        // An IMAGE holds no IMAGES: going back to when there was none leaves both.
        EDGES.run("image(0)", "count(5) = 1", "image(1)", "restore(0)", "count(5) = 3", "restore(1) = 1");
        EDGES.sentence("in place of what was kept there: 1.");
        for (int k = 0; k < 2; k++) {
            EDGES.let("k", k);
            EDGES.run("set(9, 1, 40)", "load(9, 0, 50)", "move(9, 200, 0, 5)", "image(k) = 1", "set(9, 1, 0)",
                "take(9, 0, 0)", "drop(0)", "image(k) = 1", "set(9, 1, 5)", "restore(k)", "bar(9, 1) = 0",
                "bar(9, 3) = 0", "count(0) = 0", "image(k) = 1", "restore(k) = 1", "bar(9, 1) = 0");
        }
    }

    private static void imageRefuses() {
        EDGES.sentence("OUTSIDE.");
        EDGES.refusedAnywhere("OUTSIDE", Edges.each("image(?)", "-1", "2", "32", "33", "MIN", "MAX"));
    }

    private static void restoreBringsBack() {
        EDGES.heading("Promise 19: restore");
        EDGES.plain("`int restore(int k)`:");
        EDGES.sentence("All but IMAGES is as it was when it was kept;");
        String[] least = {"set(0, 0, 0)", "set(9, 1, 0)", "set(9, 2, 0)", "set(5, 3, 0)"};
        String[] greatest = {"set(0, 0, 60)", "set(9, 1, 40)", "set(9, 2, 3)", "set(5, 3, 100)"};
        String[] tellsLeast = {"bar(0, 0) = 0", "bar(9, 1) = 0", "bar(9, 2) = 0", "count(1) = 0"};
        String[] tellsGreatest = {"bar(0, 0) = 60", "bar(9, 1) = 40", "bar(9, 2) = 3", "count(1) = 100"};
        EDGES.run(least, "image(0)", greatest, "image(1)", "restore(0) = 1", tellsLeast, "restore(1) = 1", tellsGreatest);
        EDGES.run("move(9, 0, 0, 1)", "image(1)", "shift(0, 200)", "restore(1)", "told(0, 1) = 0", "drop(0)",
            "restore(1)", "count(0) = 1", "told(0, 0) = 9", "told(0, 2) = 0", "told(0, 3) = 1");
        EDGES.run("move(9, 200, 60, 5)", "image(0)", "drop(0)", "move(0, 0, 0, 1)", "image(1)", "restore(0)",
            "told(0, 0) = 9", "told(0, 1) = 200", "told(0, 2) = 60", "told(0, 3) = 5", "restore(1)", "told(0, 0) = 0",
            "told(0, 1) = 0", "told(0, 2) = 0", "told(0, 3) = 1");
        EDGES.sentence("the IMAGE stays: 1.");
        for (int k = 0; k < 2; k++) {
            EDGES.let("k", k);
            EDGES.run("image(k)", "set(0, 0, 5)", "restore(k) = 1", "set(0, 0, 6)", "load(0, 0, 1)", "move(0, 0, 0, 1)",
                "restore(k) = 1", "bar(0, 0) = 60", "bar(0, 3) = 0", "count(0) = 0", "restore(k) = 1");
        }
        EDGES.run("image(0)", "restore(0) = 1", "count(5) = 1", "image(1)", "restore(1) = 1", "count(5) = 3");
    }

    private static void restoreOfTheFullAndTheEmpty() {
        String[] load = Edges.join(Edges.times(6, "load(9, 0, 50)"), Edges.times(6, "load(9, 1, 1)"));
        String[] moves = new String[10];
        for (int i = 0; i < 10; i++) {
            moves[i] = "move(" + i + ", " + (200 - i) + ", 60, 5)";
        }
        EDGES.run("image(0)", load, moves, "image(1)", "restore(0)", "count(0) = 0", "bar(9, 3) = 0", "bar(9, 4) = 0",
            "bar(9, 10) = NONE", "told(0, 0) = UNKNOWN", "count(4) = NONE", "load(9, 0, 7) = 1", "move(3, 3, 3, 3) = 0",
            "restore(1)", "count(0) = 10", "bar(9, 3) = 6", "bar(9, 4) = 6", "bar(9, 5) = 300", "bar(9, 6) = 6",
            "load(9, 0, 1) = FULL", "load(9, 1, 1) = FULL", "move(0, 0, 0, 1) = FULL", "told(9, 0) = 9",
            "told(9, 1) = 191", "told(0, 1) = 200", "restore(0)", "count(0) = 0", "bar(9, 3) = 0");
    }

    private static void restoreRefuses() {
        EDGES.sentence("OUTSIDE;");
        EDGES.refusedAnywhere("OUTSIDE", Edges.each("restore(?)", "-1", "2", "32", "33", "MIN", "MAX"));
        EDGES.sentence("STATE: nothing was kept in it.");
        EDGES.refused("STATE", Scenes.NEW, "restore(0)", "restore(1)");
        String[] oneKept = {"set(0, 0, 5)", "load(0, 0, 6)", "move(0, 0, 0, 1)", "image(0)", "set(0, 0, 4)"};
        EDGES.refused("STATE", oneKept, "restore(1)");
        oneKept[3] = "image(1)";
        EDGES.refused("STATE", oneKept, "restore(0)");
        EDGES.run("restore(0) = STATE", "image(0)", "restore(0) = 1", "restore(1) = STATE", "image(1)", "restore(1) = 1");
    }

    private static void countTells() {
        EDGES.heading("Promise 20: count");
        EDGES.plain("`int count(int what)`:");
        EDGES.sentence("How many MOVES there are (0),");
        String[] moves = new String[10];
        for (int i = 0; i < 10; i++) {
            moves[i] = "move(0, " + i + ", 60, 5)";
        }
        EDGES.run("count(0) = 0", moves, "count(0) = 10", "move(1, 0, 0, 1) = FULL", "count(0) = 10",
            "drop(10) = UNKNOWN", "count(0) = 10", Edges.times(9, "drop(0)"), "count(0) = 1", "drop(0)", "count(0) = 0");
        EDGES.sentence("SWAY (1),");
        EDGES.run("count(1) = 20", "set(0, 3, 0)", "count(1) = 0", "set(9, 3, 100)", "count(1) = 100",
            "set(9, 3, 101) = OUTSIDE", "count(1) = 100");
        EDGES.sentence("how many BARS are EVEN (2),");
        String[] uneven = new String[10];
        for (int b = 0; b < 10; b++) {
            uneven[b] = "load(" + b + ", " + b % 2 + ", 21)";
        }
        EDGES.run("count(2) = 10", uneven, "count(2) = 0", "set(0, 3, 21)", "count(2) = 10", "set(0, 3, 20)",
            "take(9, 1, 0)", "count(2) = 1", "take(0, 0, 0)", "count(2) = 2");
    }

    private static void countTellsPairs() {
        EDGES.sentence("how many pairs of unlike BARS are NEAR (3),");
        String[] all = new String[10];
        for (int b = 0; b < 10; b++) {
            all[b] = "set(" + b + ", 2, 3)";
        }
        // No BAR is a pair with itself, though it is 0 apart; each pair counts once; at the ends there are fewer.
        EDGES.run("count(3) = 0", "set(9, 2, 1)", "count(3) = 1", "set(9, 2, 3)", "count(3) = 3", "set(9, 2, 0)",
            "set(5, 2, 1)", "count(3) = 2", "set(5, 2, 3)", "count(3) = 6", all, "count(3) = 39");
        // 0 and 6 are 6 apart, as 3 and 3 are; 0 and 7 are not NEAR.
        EDGES.run("set(0, 2, 3)", "set(6, 2, 2)", "count(3) = 7", "set(6, 2, 3)", "count(3) = 10", "set(6, 2, 0)",
            "set(7, 2, 3)", "count(3) = 8");
    }

    private static void countTellsTheLastEnd() {
        EDGES.sentence("the last TIME at which a MOVE ENDS (4;");
        EDGES.run("move(0, 0, 60, 1)", "count(4) = 0", "move(9, 200, 0, 1)", "count(4) = 260", "move(5, 200, 0, 5)",
            "count(4) = 260", "drop(1)", "count(4) = 212", "load(5, 0, 21)", "count(4) = 212");
        EDGES.run("move(0, 0, 0, 1)", "count(4) = 60", "move(0, 1, 59, 1)", "count(4) = 1", "shift(1, -1) = NO",
            "count(4) = 1");
        EDGES.sentence("NONE: there is none),");
        EDGES.run("count(4) = NONE", "move(0, 0, 0, 1)", "count(4) = 60", "drop(0)", "count(4) = NONE");
    }

    private static void countTellsImages() {
        EDGES.sentence("which IMAGES are kept, a set: bits 0, 1 (5).");
        EDGES.run("count(5) = 0", "image(0)", "count(5) = 1", "image(0)", "count(5) = 1", "image(1)", "count(5) = 3");
        EDGES.run("image(1)", "count(5) = 2", "image(1)", "count(5) = 2", "restore(1)", "count(5) = 2", "image(0)",
            "count(5) = 3", "restore(0)", "count(5) = 3", "image(2) = OUTSIDE", "image(-1) = OUTSIDE", "count(5) = 3");
    }

    private static void countRefuses() {
        EDGES.sentence("OUTSIDE.");
        EDGES.refusedAnywhere("OUTSIDE", Edges.each("count(?)", "-1", "6", "7", "MIN", "MAX"));
    }
}
