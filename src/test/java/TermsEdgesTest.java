import java.io.IOException;

/** The boundary cases that the document's terms name, sentence by sentence. */
public final class TermsEdgesTest {
    private static final Edges EDGES = new Edges("TermsEdgesTest");

    public static void main(String[] args) throws IOException {
        callsOfAnObject();
        EDGES.heading("Terms");
        EDGES.plain("Bars hang one behind the other, each balanced by bricks on the other side; what hangs on a bar and "
            + "the bricks are loaded piece by piece, so that neither side is ever too heavy. Bars are raised and lowered "
            + "by moves that begin at told times; it is told how high each is when, where two would strike one another, "
            + "how many hands are needed at the least, who walking from bar to bar does which moves, and which moves "
            + "cannot be done, as the bar is out of balance.");
        refusalsInOrder();
        refusalsByName();
        noneBehindRefusals();
        refusedChangesNothing();
        toldAsThingsAre();
        barsAndTheirNumbers();
        piecesAndBricks();
        sway();
        even();
        loadings();
        loadingsInOrder();
        movesAndTheirNumbers();
        movesAreApart();
        heights();
        heightsByTheLastMove();
        ends();
        cuts();
        near();
        strikes();
        doable();
        oneHand();
        theHands();
        theCrew();
        constants();
        EDGES.close(args);
    }

    private static void callsOfAnObject() {
        EDGES.heading("What it is");
        EDGES.plain("Lines over a stage.");
        EDGES.sentence("An object is used for at most 512 calls after it has been made; what later calls answer is free.");
        String[] last = {"set(0, 0, 5) = 60", "load(0, 0, 5) = 2", "take(0, 0, 0) = 9", "bar(0, 5) = 9",
            "loading(0, 0) = 0", "loadings(0) = 1", "move(0, 0, 0, 1) = 1", "drop(0) = 0", "shift(0, 1) = 101",
            "told(0, 4) = 160", "height(0, 300) = 0", "strike(0, 1, 300) = 0", "clash(0, 0) = NONE",
            "often(0, 1) = 0", "hands(0) = 1", "crew(0, 0) = 0", "image(1) = 1", "restore(0) = 1", "count(4) = 160"};
        String[] ahead = {"load(0, 0, 9)", "move(0, 100, 0, 1)", "image(0)"};
        String[] between = new String[508];
        for (int i = 0; i < between.length; i++) {
            between[i] = i % 2 == 0 ? "load(1, 0, 1)" : "take(1, 0, 0)";
        }
        for (String row : last) {
            EDGES.run(ahead, between, row);
        }
    }

    private static void refusalsInOrder() {
        EDGES.sentence("Calls that are refused answer the first that fits, in the order in which they are told with the "
            + "call:");
        EDGES.refusedAnywhere("UNKNOWN", "set(10, 4, 0)", "set(-1, 0, 61)", "load(10, 2, 1)", "load(-1, 0, 51)",
            "take(10, 2, 0)", "take(-1, 0, -1)", "take(10, 0, 6)", "bar(10, 9)", "bar(-1, 26)", "loading(10, -2)",
            "loading(-1, MIN)", "move(10, 201, 30, 3)", "move(10, 50, 61, 3)", "move(-1, 50, 30, 0)",
            "shift(10, 201)", "shift(-1, MIN)", "shift(MAX, MAX)", "told(10, 9)", "told(-1, -1)", "height(10, 301)",
            "height(-1, -1)", "strike(10, 10, 0)", "strike(-1, -1, 0)", "strike(0, 10, 301)", "strike(10, 0, -1)",
            "strike(MIN, MIN, MIN)", "often(10, 10)", "often(-1, -1)", "often(MAX, MAX)");
        EDGES.refusedAnywhere("OUTSIDE", "take(0, 2, 6)", "take(9, -1, -1)", "take(7, 2, 0)", "crew(10, -1)",
            "clash(301, 3)");
        EDGES.refused("OUTSIDE", Scenes.NEW, "restore(2)", "restore(-1)");
        // OUTSIDE ahead of FULL: BARS 0 and 9 have 6 of both; there are 10 MOVES, one of BAR 0 at 100.
        EDGES.refused("OUTSIDE", Scenes.FULL, "load(0, 0, 0)", "load(0, 0, 51)", "load(9, 1, 0)", "load(9, 1, 51)",
            "load(0, 2, 1)", "move(3, 201, 30, 3)", "move(3, 50, 61, 3)", "move(3, 50, 30, 6)", "move(0, 100, -1, 1)",
            "move(0, 100, 0, 0)");
        EDGES.refused("OUTSIDE", Scenes.BUSY, "move(0, 100, 61, 1)", "move(0, 100, 0, 6)");
        EDGES.refused("NO", Scenes.FULL, "move(0, 100, 0, 1)", "move(0, 0, 60, 5)", "move(9, 200, 60, 5)");
        EDGES.refused("UNKNOWN", Scenes.FULL, "move(10, 100, 0, 1)", "load(10, 0, 1)");
        EDGES.refused("UNKNOWN", Scenes.NEW, "told(0, 9)", "shift(0, 201)", "shift(0, -1)");
    }

    private static void refusalsByName() {
        EDGES.sentence("UNKNOWN -1 (no such BAR, MOVE), OUTSIDE -2 (another number is not as told), STATE -3, NO -5, "
            + "FULL -4 (as told with the call).");
        EDGES.refusedAnywhere("-1", "bar(10, 0)", "bar(-1, 0)", "told(10, 0)", "told(-1, 0)");
        EDGES.refusedAnywhere("-2", "bar(0, 9)", "count(6)", "count(-1)");
        EDGES.refused("-3", Scenes.NEW, "restore(0)", "restore(1)");
        EDGES.refused("-4", Scenes.FULL, "load(0, 0, 1)", "move(3, 50, 0, 1)");
        EDGES.refused("-5", Scenes.BUSY, "take(0, 0, 6)", "move(0, 100, 0, 1)", "shift(0, 20)");
    }

    private static void noneBehindRefusals() {
        EDGES.sentence("NONE -6 is answered only where no refusal fits.");
        // Each pair: refused, though there is none; then not refused.
        EDGES.run("bar(10, 10) = UNKNOWN", "bar(9, 10) = -6", "bar(0, 16) = OUTSIDE", "bar(0, 15) = -6",
            "loading(10, 0) = UNKNOWN", "loading(9, 0) = -6", "clash(301, 0) = OUTSIDE", "clash(300, 0) = -6",
            "clash(0, 3) = OUTSIDE", "clash(0, 2) = -6", "crew(10, 0) = OUTSIDE", "crew(9, 0) = -6",
            "crew(-1, -1) = OUTSIDE", "crew(0, -1) = -6", "count(6) = OUTSIDE", "count(4) = -6");
        EDGES.run("load(0, 0, 21)", "loading(0, -2) = OUTSIDE", "loading(0, -1) = -6", "move(0, 0, 0, 1)",
            "told(1, 8) = UNKNOWN", "told(0, 9) = OUTSIDE", "told(0, 8) = -6");
    }

    private static void refusedChangesNothing() {
        EDGES.sentence("What is refused changes nothing.");
        EDGES.refusedAnywhere("UNKNOWN", "set(10, 0, 1)", "set(10, 3, 1)", "load(10, 0, 1)", "take(10, 0, 0)",
            "bar(10, 0)", "loading(10, 0)", "loadings(10)", "move(10, 1, 1, 1)", "drop(10)", "drop(-1)", "shift(10, 1)",
            "told(10, 8)", "height(10, 0)", "strike(10, 0, 0)", "often(0, 10)");
        EDGES.refusedAnywhere("OUTSIDE", "set(0, 0, 61)", "set(0, 1, 41)", "set(0, 2, 4)", "set(0, 3, 101)",
            "load(0, 0, 51)", "load(7, 2, 1)", "take(0, 2, 0)", "bar(0, 9)", "loading(0, -2)", "move(3, 201, 1, 1)",
            "move(3, 1, 61, 1)", "move(3, 1, 1, 6)", "height(0, 301)", "strike(0, 1, 301)", "clash(301, 0)",
            "often(0, 0)", "hands(3)", "crew(10, 0)", "image(2)", "restore(2)", "count(6)");
        EDGES.refused("OUTSIDE", Scenes.BUSY, "shift(0, 101)", "shift(0, -101)", "told(0, 9)");
        EDGES.refused("NO", Scenes.BUSY, "take(0, 0, 3)", "take(0, 1, -1)", "move(0, 100, 1, 1)", "shift(0, 20)");
        EDGES.refused("NO", Scenes.FULL, "take(0, 0, 6)", "take(0, 1, 6)", "move(0, 100, 1, 1)", "shift(0, 20)");
        EDGES.refused("FULL", Scenes.FULL, "load(0, 0, 1)", "load(0, 1, 1)", "move(3, 50, 1, 1)");
        EDGES.refused("STATE", Edges.join(Scenes.NEW, "set(0, 0, 5)", "move(0, 0, 0, 1)", "load(0, 0, 1)", "image(1)"),
            "restore(0)");
    }

    private static void toldAsThingsAre() {
        EDGES.sentence("All that is told is as things are when it is asked.");
        EDGES.run("bar(0, 7) = 1", "load(0, 0, 21)", "bar(0, 7) = 0", "set(1, 3, 21)", "bar(0, 7) = 1",
            "loadings(0) = 1", "set(1, 3, 20)", "loadings(0) = 0", "loading(0, 0) = NONE", "load(0, 1, 1)",
            "loading(0, 0) = 10", "count(2) = 10", "take(0, 1, 0)", "count(2) = 9", "loading(0, 0) = NONE");
        EDGES.run("move(0, 0, 0, 1)", "told(0, 4) = 60", "count(4) = 60", "height(0, 9) = 51", "set(0, 0, 10)",
            "told(0, 4) = 10", "count(4) = 10", "height(0, 9) = 1", "told(0, 5) = 10", "move(0, 4, 8, 1)",
            "told(0, 4) = 4", "told(0, 6) = 6", "told(0, 7) = 1", "count(4) = 6", "shift(1, 100)", "told(0, 7) = 0",
            "count(4) = 112", "drop(1)", "count(4) = 10");
        EDGES.run("set(0, 1, 5)", "set(1, 1, 5)", "strike(0, 1, 0) = 0", "set(0, 2, 1)", "strike(0, 1, 0) = 1",
            "often(0, 1) = 301", "clash(0, 0) = 0", "count(3) = 1", "set(0, 0, 0)", "often(0, 1) = 0",
            "clash(0, 0) = NONE", "set(0, 0, 60)", "move(0, 0, 0, 5)", "often(0, 1) = 1", "clash(0, 0) = 0",
            "clash(1, 0) = NONE", "set(0, 2, 0)", "clash(0, 0) = NONE", "count(3) = 0");
        EDGES.run("move(0, 0, 0, 1)", "move(1, 0, 0, 1)", "hands(0) = 2", "hands(2) = 2", "told(1, 8) = 1",
            "crew(1, 0) = 1", "shift(1, 61)", "hands(0) = 1", "hands(2) = 1", "told(1, 8) = 0", "crew(0, 1) = 1",
            "load(0, 1, 21)", "hands(1) = 1", "crew(0, 0) = 1", "told(0, 8) = NONE", "take(0, 1, 0)", "crew(0, 0) = 0",
            "set(0, 0, 0)", "hands(2) = 1", "shift(1, -60)", "hands(0) = 1", "set(0, 0, 1)", "hands(0) = 2");
    }

    private static void barsAndTheirNumbers() {
        EDGES.sentence("BARS are 0 to 9, one behind the other.");
        EDGES.run("bar(-1, 0) = UNKNOWN", "bar(0, 0) = 60", "bar(9, 0) = 60", "bar(10, 0) = UNKNOWN",
            "bar(MIN, 0) = UNKNOWN", "bar(MAX, 0) = UNKNOWN", "set(0, 2, 3)", "count(3) = 3", "set(9, 2, 3)",
            "count(3) = 6");
        EDGES.sentence("Each has a HOME, 0 to 60 (60 at first), on which it is at TIME 0;");
        EDGES.run("set(9, 0, 61) = OUTSIDE", "set(9, 0, 60) = 60", "height(9, 0) = 60", "set(9, 0, 0) = 60",
            "height(9, 0) = 0", "set(9, 0, -1) = OUTSIDE", "set(9, 0, MIN) = OUTSIDE", "set(9, 0, MAX) = OUTSIDE",
            "height(9, 0) = 0", "height(8, 0) = 60", "move(9, 0, 60, 5)", "height(9, 0) = 0");
        EDGES.sentence("a DROP, 0 to 40 (0 at first): what hangs on it reaches so far down;");
        EDGES.run("set(0, 1, 0) = 0", "set(0, 1, 41) = OUTSIDE", "set(0, 1, 40) = 0", "set(0, 1, -1) = OUTSIDE",
            "set(0, 1, MIN) = OUTSIDE", "set(0, 1, MAX) = OUTSIDE", "bar(0, 1) = 40", "set(0, 2, 1)", "set(1, 1, 1)",
            "set(1, 0, 21)", "strike(0, 1, 0) = 1", "set(1, 0, 20)", "strike(0, 1, 0) = 0");
        EDGES.sentence("and a REACH, 0 to 3 (0 at first).");
        EDGES.run("set(0, 2, 0) = 0", "set(0, 2, 4) = OUTSIDE", "set(0, 2, 3) = 0", "set(0, 2, -1) = OUTSIDE",
            "set(0, 2, MIN) = OUTSIDE", "set(0, 2, MAX) = OUTSIDE", "bar(0, 2) = 3", "set(0, 2, 0) = 3", "bar(0, 2) = 0");
    }

    private static void piecesAndBricks() {
        EDGES.sentence("Each has up to 6 PIECES, and up to 6 BRICKS,");
        for (int b = 0; b < 10; b++) {
            EDGES.let("b", b);
            EDGES.run(Edges.times(5, "load(b, 0, 1)"), "load(b, 0, 1) = 6", "load(b, 0, 1) = FULL",
                Edges.times(5, "load(b, 1, 1)"), "load(b, 1, 1) = 6", "load(b, 1, 1) = FULL", "bar(b, 3) = 6",
                "bar(b, 4) = 6");
        }
        EDGES.sentence("each with a WEIGHT, 1 to 50,");
        for (int side = 0; side < 2; side++) {
            EDGES.let("s", side);
            EDGES.run("load(0, s, 0) = OUTSIDE", "load(0, s, 1) = 1", "load(0, s, 50) = 2", "load(0, s, 51) = OUTSIDE",
                "load(0, s, -1) = OUTSIDE", "load(0, s, MIN) = OUTSIDE", "load(0, s, MAX) = OUTSIDE", "take(0, s, 1) = 50",
                "take(0, s, 0) = 1");
        }
        EDGES.sentence("numbered from 0 on as they came, PIECES and BRICKS each for themselves;");
        EDGES.run("load(0, 0, 1)", "load(0, 1, 50)", "load(0, 1, 49)", "load(0, 0, 2)", "bar(0, 10) = 1", "bar(0, 11) = 2",
            "bar(0, 12) = NONE", "bar(0, 20) = 50", "bar(0, 21) = 49", "bar(0, 22) = NONE", "take(0, 0, -1) = NO",
            "take(0, 0, 2) = NO", "take(0, 1, 2) = NO");
        EDGES.sentence("when one goes, those behind it are one less.");
        for (int side = 0; side < 2; side++) {
            EDGES.let("s", side);
            EDGES.let("first", 10 + 10 * side);
            EDGES.let("fourth", 13 + 10 * side);
            EDGES.let("fifth", 14 + 10 * side);
            EDGES.let("sixth", 15 + 10 * side);
            String[] six = {"load(0, s, 1)", "load(0, s, 2)", "load(0, s, 3)", "load(0, s, 4)", "load(0, s, 5)",
                "load(0, s, 6)"};
            EDGES.run(six, "take(0, s, 0)", "bar(0, first) = 2", "bar(0, fifth) = 6", "bar(0, sixth) = NONE");
            EDGES.run(six, "take(0, s, 5)", "bar(0, first) = 1", "bar(0, fifth) = 5", "bar(0, sixth) = NONE");
            EDGES.run(six, "take(0, s, 4)", "bar(0, first) = 1", "bar(0, fourth) = 4", "bar(0, fifth) = 6",
                "bar(0, sixth) = NONE", "load(0, s, 7) = 6", "bar(0, sixth) = 7");
        }
    }

    private static void sway() {
        EDGES.sentence("SWAY is 0 to 100 (20 at first), one number for all.");
        EDGES.run("count(1) = 20", "set(0, 3, 101) = OUTSIDE", "set(0, 3, 100) = 20", "set(9, 3, 0) = 100",
            "set(9, 3, -1) = OUTSIDE", "set(9, 3, MIN) = OUTSIDE", "set(9, 3, MAX) = OUTSIDE", "count(1) = 0",
            "load(0, 0, 1)", "load(9, 1, 1)", "count(2) = 8", "set(5, 3, 1) = 0", "count(2) = 10");
    }

    private static void even() {
        EDGES.sentence("A BAR is EVEN, if all its PIECES together and all its BRICKS together are no more than SWAY apart.");
        EDGES.run("set(0, 3, 0)", "bar(0, 7) = 1", "load(0, 0, 1)", "bar(0, 7) = 0", "load(0, 1, 1)", "bar(0, 7) = 1",
            "load(0, 1, 1)", "bar(0, 7) = 0", "set(0, 3, 1)", "bar(0, 7) = 1");
        for (int side = 0; side < 2; side++) {
            EDGES.let("s", side);
            EDGES.let("t", 1 - side);
            EDGES.run("set(0, 3, 100)", "load(0, s, 50)", "load(0, s, 50)", "bar(0, 7) = 1", "load(0, s, 1)",
                "bar(0, 7) = 0", "load(0, t, 1)", "bar(0, 7) = 1", Edges.times(3, "load(0, s, 50)"), "bar(0, 7) = 0",
                Edges.times(3, "load(0, t, 50)"), "bar(0, 7) = 1", "set(0, 3, 99)", "bar(0, 7) = 0");
        }
        EDGES.run(Edges.times(6, "load(9, 0, 50)"), Edges.times(6, "load(9, 1, 50)"), "set(0, 3, 0)", "bar(9, 7) = 1");
    }

    private static void loadings() {
        EDGES.sentence("A LOADING of a BAR: all its PIECES and BRICKS in an order, such that at no time, behind none, some "
            + "or all of them, the PIECES and the BRICKS that are loaded are more than SWAY apart.");
        // Behind none: with nothing to load there is one, whatever SWAY is.
        EDGES.run("set(0, 3, 0)", "loadings(0) = 1", "loading(0, -1) = 0", "set(0, 3, 100)", "loadings(0) = 1");
        // Behind some: each alone is just SWAY, then one more than SWAY, though together they are EVEN.
        EDGES.run("load(0, 0, 20)", "load(0, 1, 20)", "loadings(0) = 2", "set(0, 3, 19)", "bar(0, 7) = 1",
            "loadings(0) = 0");
        // Only the BRICK is too heavy to go first, then only the PIECE.
        EDGES.run("load(0, 0, 20)", "load(0, 1, 40)", "loadings(0) = 1", "loading(0, 0) = 0", "loading(0, 1) = 10",
            "load(1, 0, 40)", "load(1, 1, 20)", "loadings(1) = 1", "loading(1, 0) = 10", "loading(1, 1) = 0",
            "load(2, 0, 20)", "load(2, 1, 41)", "loadings(2) = 0");
        // Behind all: at just SWAY, then one more.
        EDGES.run("load(0, 0, 10)", "load(0, 0, 10)", "loadings(0) = 2", "load(0, 0, 1)", "loadings(0) = 0",
            "load(0, 1, 1)", "loadings(0) = 18", "load(1, 1, 20)", "loadings(1) = 1", "load(1, 1, 1)", "loadings(1) = 0");
        // All of them: 6 and 6, with the greatest WEIGHTS and the greatest SWAY. Of the ways of 12 steps up or down that
        // are never more than 2 from where they began, 486 come back there; of those of 11 steps 243 lead to 1 above it.
        EDGES.run("set(0, 3, 100)", Edges.times(6, "load(9, 0, 50)"), Edges.times(6, "load(9, 1, 50)"),
            "loading(9, -1) = 12", "loadings(9) = " + 486 * 720 * 720, "take(9, 1, 5)", "loading(9, -1) = 11",
            "loadings(9) = " + 243 * 720 * 120);
    }

    private static void loadingsInOrder() {
        EDGES.sentence("In it PIECE k is told as k, BRICK k as 10 and k.");
        EDGES.run("set(0, 3, 6)", Edges.times(6, "load(0, 0, 1)"), Edges.times(6, "load(0, 1, 1)"), "loading(0, 0) = 0",
            "loading(0, 5) = 5", "loading(0, 6) = 10", "loading(0, 11) = 15");
        EDGES.sentence("Of two LOADINGS that is the first one that has the lesser number at the first place at which they "
            + "differ.");
        // PIECE 0 ahead of all; then PIECES 1 and 2 do not fit, a BRICK has to go between.
        EDGES.run("load(0, 0, 20)", "load(0, 0, 20)", "load(0, 1, 20)", "load(0, 1, 20)", "loading(0, 0) = 0",
            "loading(0, 1) = 10", "loading(0, 2) = 1", "loading(0, 3) = 11");
        // They differ at the last two places only.
        EDGES.run("load(0, 0, 1)", "load(0, 0, 19)", "load(0, 1, 1)", "load(0, 1, 1)", "loading(0, 0) = 0",
            "loading(0, 1) = 1", "loading(0, 2) = 10", "loading(0, 3) = 11");
        // 0 could go first, but then neither 1 nor the BRICK fits: what comes first has to leave a way for all.
        EDGES.run("load(0, 0, 1)", "load(0, 0, 20)", "load(0, 1, 40)", "loading(0, 0) = 1", "loading(0, 1) = 10",
            "loading(0, 2) = 0", "loadings(0) = 1");
        // So with BRICKS: BRICK 0 could go first, but then neither BRICK 1 nor the PIECE fits.
        EDGES.run("load(0, 1, 1)", "load(0, 1, 20)", "load(0, 0, 40)", "loading(0, 0) = 11", "loading(0, 1) = 0",
            "loading(0, 2) = 10", "loadings(0) = 1");
    }

    private static void movesAndTheirNumbers() {
        EDGES.sentence("MOVES: a BAR, a TIME, 0 to 200, at which it begins,");
        EDGES.run("move(9, -1, 0, 1) = OUTSIDE", "move(9, 0, 0, 1) = 0", "move(9, 200, 0, 1) = 1",
            "move(9, 201, 0, 1) = OUTSIDE", "move(9, MIN, 0, 1) = OUTSIDE", "move(9, MAX, 0, 1) = OUTSIDE",
            "move(10, 0, 0, 1) = UNKNOWN", "move(-1, 0, 0, 1) = UNKNOWN", "move(0, 0, 0, 1) = 2", "count(0) = 3",
            "height(9, 0) = 60", "height(9, 1) = 59");
        EDGES.sentence("a HEIGHT to which it goes, 0 to 60,");
        EDGES.run("move(0, 0, -1, 5) = OUTSIDE", "move(0, 0, 0, 5) = 0", "move(0, 100, 61, 5) = OUTSIDE",
            "move(0, 100, 60, 5) = 1", "move(0, 150, MIN, 5) = OUTSIDE", "move(0, 150, MAX, 5) = OUTSIDE",
            "height(0, 12) = 0", "height(0, 112) = 60", "count(0) = 2");
        EDGES.sentence("a PACE, 1 to 5.");
        EDGES.run("move(0, 0, 0, 0) = OUTSIDE", "move(0, 0, 0, 1) = 0", "move(1, 0, 0, 5) = 1",
            "move(2, 0, 0, 6) = OUTSIDE", "move(2, 0, 0, -1) = OUTSIDE", "move(2, 0, 0, MIN) = OUTSIDE",
            "move(2, 0, 0, MAX) = OUTSIDE", "height(0, 1) = 59", "height(1, 1) = 55", "count(0) = 2");
        EDGES.sentence("There are up to 10,");
        String[] nine = new String[9];
        for (int i = 0; i < 9; i++) {
            nine[i] = "move(" + i + ", 0, 0, 1)";
        }
        EDGES.run(nine, "move(9, 0, 0, 1) = 9", "move(9, 1, 0, 1) = FULL", "count(0) = 10", "told(9, 0) = 9",
            "told(10, 0) = UNKNOWN");
        EDGES.sentence("numbered from 0 on as they came; when one goes, those behind it are one less.");
        EDGES.run("told(0, 0) = UNKNOWN", nine, "move(9, 0, 0, 1)", "told(0, 0) = 0", "told(9, 0) = 9",
            "told(-1, 0) = UNKNOWN", "drop(0)", "told(0, 0) = 1", "told(8, 0) = 9", "told(9, 0) = UNKNOWN", "drop(8)",
            "told(0, 0) = 1", "told(7, 0) = 8", "told(8, 0) = UNKNOWN", "drop(6)", "told(5, 0) = 6", "told(6, 0) = 8");
        // All that was told of it goes with it.
        EDGES.run("move(0, 0, 0, 1)", "move(9, 200, 60, 5)", "move(8, 199, 59, 4)", "drop(0)", "told(0, 0) = 9",
            "told(0, 1) = 200", "told(0, 2) = 60", "told(0, 3) = 5", "told(1, 0) = 8", "told(1, 1) = 199",
            "told(1, 2) = 59", "told(1, 3) = 4");
    }

    private static void movesAreApart() {
        EDGES.sentence("Of MOVES of one BAR no two begin at one TIME.");
        EDGES.run("move(0, 0, 0, 1) = 0", "move(0, 0, 60, 5) = NO", "move(0, 1, 60, 5) = 1", "move(1, 0, 60, 5) = 2",
            "shift(1, -1) = NO", "shift(0, 1) = NO", "shift(1, 199) = 200", "move(0, 200, 0, 1) = NO",
            "shift(0, 200) = NO", "shift(2, 200) = 200", "move(0, 1, 0, 1) = 3");
        EDGES.plain("TIMES are whole numbers.");
    }

    private static void heights() {
        EDGES.sentence("The HEIGHT of a BAR at TIME 0 is its HOME.");
        EDGES.run("move(0, 0, 0, 5)", "height(0, 0) = 60", "set(0, 0, 0)", "height(0, 0) = 0", "set(0, 0, 59)",
            "height(0, 0) = 59", "set(9, 0, 0)", "move(9, 0, 60, 5)", "height(9, 0) = 0");
        EDGES.sentence("At each TIME t above 0: without a MOVE of it that begins at t less 1 or earlier it is as at t less "
            + "1;");
        EDGES.run("height(0, 1) = 60", "height(0, 300) = 60", "move(0, 0, 0, 1)", "height(0, 1) = 59",
            "shift(0, 1)", "height(0, 1) = 60", "height(0, 2) = 59", "shift(0, 199)", "height(0, 200) = 60",
            "height(0, 201) = 59", "move(1, 0, 0, 1)", "height(0, 200) = 60", "height(2, 300) = 60");
    }

    private static void heightsByTheLastMove() {
        EDGES.sentence("else, m being that of these that begins last:");
        // Not the one that was told last, nor that which ENDS last.
        EDGES.run("move(0, 10, 0, 5)", "move(0, 0, 59, 1)", "height(0, 10) = 59", "height(0, 11) = 54",
            "move(0, 11, 60, 1)", "height(0, 11) = 54", "height(0, 12) = 55", "height(0, 300) = 60", "shift(2, 100)",
            "height(0, 111) = 0", "height(0, 112) = 1", "height(0, 171) = 60");
        EDGES.sentence("just m's HEIGHT, if at t less 1 it was no farther from that than m's PACE;");
        for (int pace = 1; pace <= 5; pace++) {
            EDGES.let("p", pace);
            EDGES.let("less", pace - 1);
            EDGES.let("more", pace + 1);
            EDGES.run("set(0, 0, 0)", "move(0, 0, p, p)", "height(0, 1) = p", "set(1, 0, p)", "move(1, 0, 0, p)",
                "height(1, 1) = 0", "set(2, 0, 0)", "move(2, 0, less, p)", "height(2, 1) = less", "set(3, 0, less)",
                "move(3, 0, 0, p)", "height(3, 1) = 0", "set(4, 0, 0)", "move(4, 0, more, p)", "height(4, 1) = p",
                "height(4, 2) = more", "set(5, 0, more)", "move(5, 0, 0, p)", "height(5, 1) = 1", "height(5, 2) = 0",
                "set(6, 0, p)", "move(6, 0, p, p)", "height(6, 1) = p");
        }
        EDGES.sentence("else as at t less 1, nearer to m's HEIGHT by its PACE.");
        EDGES.run("move(0, 0, 0, 5)", "height(0, 1) = 55", "height(0, 11) = 5", "height(0, 12) = 0", "height(0, 13) = 0",
            "move(0, 12, 60, 1)", "height(0, 13) = 1", "height(0, 71) = 59", "height(0, 72) = 60", "height(0, 73) = 60",
            "set(1, 0, 0)", "move(1, 0, 60, 5)", "height(1, 1) = 5", "height(1, 11) = 55", "height(1, 12) = 60");
        EDGES.sentence("(All MOVES count for this, whether they can be done or not.)");
        EDGES.run("load(0, 0, 21)", "move(0, 0, 0, 1)", "height(0, 1) = 59", "height(0, 60) = 0", "move(0, 1, 60, 1)",
            "height(0, 2) = 60", "hands(1) = 0");
        EDGES.sentence("(So a MOVE that begins at TIME t and has 7 to go by PACE 3 has gone 0, 3, 6, 7 at t and 0, 1, 2, "
            + "3.)");
        EDGES.run("set(0, 0, 10)", "move(0, 200, 17, 3)", "height(0, 199) = 10", "height(0, 200) = 10",
            "height(0, 201) = 13", "height(0, 202) = 16", "height(0, 203) = 17", "height(0, 204) = 17", "set(1, 0, 7)",
            "move(1, 0, 0, 3)", "height(1, 0) = 7", "height(1, 1) = 4", "height(1, 2) = 1", "height(1, 3) = 0",
            "height(1, 4) = 0");
    }

    private static void ends() {
        EDGES.sentence("A MOVE ENDS at the first TIME, from that on at which it begins, at which its BAR is at its HEIGHT;");
        EDGES.run("move(0, 0, 60, 1)", "told(0, 4) = 0", "move(1, 200, 60, 1)", "told(1, 4) = 200", "move(2, 200, 0, 1)",
            "told(2, 4) = 260", "move(3, 200, 59, 5)", "told(3, 4) = 201");
        // At its HEIGHT earlier, but not any more as it begins.
        EDGES.run("move(0, 0, 0, 5)", "move(0, 20, 30, 5)", "told(0, 4) = 12", "told(1, 4) = 26", "told(1, 5) = 0");
        // At its HEIGHT by chance, on the way of the one ahead of it, just as it begins.
        EDGES.run("move(0, 0, 0, 1)", "move(0, 10, 50, 1)", "told(1, 4) = 10", "told(1, 7) = 0", "told(0, 4) = 10",
            "told(0, 7) = 1", "shift(1, 1)", "told(1, 4) = 12", "told(1, 5) = 49", "shift(1, -2)", "told(1, 4) = 10",
            "told(1, 5) = 51");
        // It stays there afterwards: the first TIME counts.
        EDGES.run("move(0, 0, 55, 5)", "move(0, 100, 60, 5)", "told(0, 4) = 1", "height(0, 100) = 55");
    }

    private static void cuts() {
        EDGES.sentence("but if another MOVE of its BAR begins behind it and ahead of that TIME, it is CUT: it ENDS as that "
            + "one begins.");
        // From 60 to 50 by 5 from 10 on, so until 12.
        EDGES.run("move(0, 10, 50, 5)", "move(0, 12, 0, 1)", "told(0, 7) = 0", "told(0, 4) = 12", "told(0, 6) = 50",
            "shift(1, -1)", "told(0, 7) = 1", "told(0, 4) = 11", "told(0, 6) = 55", "shift(1, 2)", "told(0, 7) = 0",
            "told(0, 4) = 12", "shift(1, -4)", "told(0, 7) = 0", "told(0, 5) = 59");
        // One that goes to the same HEIGHT cuts it, too; and the first of several does.
        EDGES.run("move(0, 0, 0, 1)", "move(0, 59, 0, 1)", "told(0, 7) = 1", "told(0, 4) = 59", "told(0, 6) = 1",
            "told(1, 4) = 60", "told(1, 7) = 0", "move(0, 1, 0, 1)", "told(0, 4) = 1", "told(2, 4) = 59",
            "told(2, 7) = 1", "shift(1, 1)", "told(2, 4) = 60", "told(2, 7) = 0", "told(1, 4) = 60", "told(1, 7) = 0");
        // Never at its HEIGHT any more.
        EDGES.run("move(0, 199, 0, 1)", "move(0, 200, 60, 1)", "told(0, 7) = 1", "told(0, 4) = 200", "told(0, 6) = 59",
            "told(1, 4) = 201");
        // One of another BAR does not.
        EDGES.run("move(0, 0, 0, 1)", "move(1, 1, 0, 1)", "told(0, 7) = 0", "told(0, 4) = 60");
    }

    private static void near() {
        EDGES.sentence("Two BARS are NEAR, if their numbers are no farther apart than both their REACHES, added.");
        for (int one = 0; one <= 3; one++) {
            for (int other = 0; other <= 3; other++) {
                EDGES.let("one", one);
                EDGES.let("other", other);
                String[] drops = new String[10];
                for (int b = 0; b < 10; b++) {
                    drops[b] = "set(" + b + ", 1, 1)";
                }
                int sum = one + other;
                for (int b = 1; b < 10; b++) {
                    EDGES.let("b", b);
                    EDGES.let("near", b <= sum ? 1 : 0);
                    EDGES.run(drops, "set(0, 2, one)", "set(b, 2, other)", "strike(0, b, 0) = near",
                        "strike(b, 0, 0) = near");
                }
            }
        }
        EDGES.run("count(3) = 0", "set(0, 2, 3)", "set(6, 2, 3)", "count(3) = 10", "set(6, 2, 2)", "count(3) = 7");
    }

    private static void strikes() {
        EDGES.sentence("They STRIKE at a TIME, if they are NEAR, both have a DROP above 0,");
        EDGES.run("set(0, 1, 40)", "set(0, 2, 1)", "strike(0, 1, 0) = 0", "set(1, 0, 30)", "strike(0, 1, 0) = 0",
            "set(1, 1, 1)", "strike(0, 1, 0) = 1", "strike(1, 0, 0) = 1", "set(0, 2, 0)", "strike(0, 1, 0) = 0",
            "set(1, 2, 1)", "strike(0, 1, 0) = 1", "set(0, 1, 0)", "strike(0, 1, 0) = 0", "strike(1, 0, 0) = 0");
        EDGES.sentence("and what hangs on the one and on the other has more than a mere point of HEIGHT together: from the "
            + "HEIGHT of the BAR down to that, less its DROP.");
        // 0 hangs from 30 to 20; 1 hangs 5 down: its foot at 30, then its head at 20.
        String[] ten = {"set(0, 0, 30)", "set(0, 1, 10)", "set(0, 2, 1)", "set(1, 1, 5)"};
        EDGES.run(ten, "set(1, 0, 36)", "strike(0, 1, 0) = 0", "set(1, 0, 35)", "strike(0, 1, 0) = 0", "set(1, 0, 34)",
            "strike(0, 1, 0) = 1", "strike(1, 0, 0) = 1", "set(1, 0, 30)", "strike(0, 1, 0) = 1", "set(1, 0, 25)",
            "strike(0, 1, 0) = 1", "set(1, 0, 21)", "strike(0, 1, 0) = 1", "strike(1, 0, 0) = 1", "set(1, 0, 20)",
            "strike(0, 1, 0) = 0", "strike(1, 0, 0) = 0", "set(1, 0, 19)", "strike(0, 1, 0) = 0");
        // The same span, of 1 and of 40.
        EDGES.run(ten, "set(0, 1, 1)", "set(1, 1, 1)", "set(1, 0, 30)", "strike(0, 1, 0) = 1", "set(1, 0, 29)",
            "strike(0, 1, 0) = 0", "set(1, 0, 31)", "strike(0, 1, 0) = 0", "set(0, 1, 40)", "set(1, 1, 40)",
            "strike(0, 1, 0) = 1");
        EDGES.sentence("(What hangs below 0 counts, too.)");
        EDGES.run("set(0, 0, 0)", "set(0, 1, 1)", "set(0, 2, 1)", "set(1, 0, 0)", "set(1, 1, 1)", "strike(0, 1, 0) = 1",
            "set(1, 0, 39)", "set(1, 1, 40)", "strike(0, 1, 0) = 1", "set(1, 0, 40)", "strike(0, 1, 0) = 0",
            "set(1, 1, 39)", "set(1, 0, 38)", "strike(0, 1, 0) = 1", "set(1, 0, 39)", "strike(0, 1, 0) = 0");
    }

    private static void doable() {
        EDGES.plain("HANDS.");
        EDGES.sentence("A MOVE whose BAR is EVEN can be done, and needs one hand, from its beginning to its END; others "
            + "cannot be done, and need none.");
        EDGES.run("move(0, 0, 0, 1)", "load(0, 0, 20)", "hands(0) = 1", "hands(1) = 1", "told(0, 8) = 0", "load(0, 0, 1)",
            "hands(0) = 0", "hands(1) = 0", "hands(2) = 0", "told(0, 8) = NONE", "crew(0, 0) = NONE", "load(0, 1, 41)",
            "hands(0) = 1", "load(0, 1, 1)", "hands(0) = 0", "set(9, 3, 21)", "hands(0) = 1", "hands(2) = 1");
        // EVEN is enough: that it has no LOADING is no matter.
        EDGES.run("load(0, 0, 50)", "load(0, 1, 50)", "loadings(0) = 0", "move(0, 0, 0, 1)", "hands(1) = 1");
        // One that is at its HEIGHT as it begins needs a hand, too.
        EDGES.run("move(0, 0, 60, 1)", "hands(0) = 1", "hands(2) = 0", "told(0, 8) = 0");
    }

    private static void oneHand() {
        EDGES.sentence("One hand can do two MOVES, if the one ENDS at a TIME that is no greater than that at which the "
            + "other one begins, less as many as their BARS are apart.");
        for (int b = 1; b < 10; b++) {
            // On BAR 0 from 50 to 51. The other one begins b behind that, then one earlier; then it ENDS as many ahead of
            // 50, less one, then just as many, then one more.
            EDGES.let("b", b);
            EDGES.let("behind", 51 + b);
            EDGES.let("ahead", -2 * b);
            EDGES.let("end", 50 - b);
            EDGES.run("move(0, 50, 55, 5)", "move(b, behind, 55, 5)", "hands(0) = 1", "shift(1, -1)", "hands(0) = 2",
                "shift(1, ahead)", "hands(0) = 2", "shift(1, -1)", "told(1, 4) = end", "hands(0) = 1", "shift(1, -1)",
                "hands(0) = 1");
        }
        // Of one BAR: no way at all.
        EDGES.run("move(9, 0, 0, 5)", "move(9, 12, 60, 5)", "hands(0) = 1", "shift(1, -1)", "told(0, 4) = 11",
            "hands(0) = 1");
        // Less than none is left at TIME 0: nothing ENDS ahead of that.
        EDGES.run("move(0, 0, 60, 1)", "move(9, 8, 60, 1)", "hands(0) = 2", "shift(1, 1)", "hands(0) = 1",
            "shift(1, -9)", "hands(0) = 2");
    }

    private static void theHands() {
        EDGES.sentence("THE HANDS: the least number of hands by which all MOVES that can be done are, each by one, any two "
            + "of one hand as told (0: there is none).");
        EDGES.run("hands(0) = 0", "load(0, 0, 21)", "move(0, 0, 0, 1)", "hands(0) = 0", "move(1, 0, 0, 1)", "hands(0) = 1");
        String[] ten = new String[10];
        for (int i = 0; i < 10; i++) {
            ten[i] = "move(" + i + ", 100, 0, 1)";
        }
        EDGES.run(ten, "hands(0) = 10", "shift(0, -61)", "hands(0) = 9", "shift(0, 1)", "told(0, 4) = 100",
            "hands(0) = 10");
        // Any two, not only those that follow one another: 0 and 2 meet by way of 1, but need 3 and have 2.
        EDGES.run("move(0, 0, 60, 1)", "move(1, 1, 60, 1)", "move(3, 3, 60, 1)", "hands(0) = 1", "shift(2, -1)",
            "hands(0) = 2");
    }

    private static void theCrew() {
        EDGES.sentence("THE CREW: of all ways to give each of them one of the hands 0 to THE HANDS less 1, so that any two "
            + "of one hand are as told, that in which, of MOVES by rising numbers, the first one has the least hand, then "
            + "the second one, and so on.");
        EDGES.run("move(0, 100, 0, 1)", "told(0, 8) = 0", "move(9, 100, 0, 1)", "told(0, 8) = 0", "told(1, 8) = 1",
            "crew(1, 0) = 1", "crew(2, 0) = NONE", "load(0, 0, 21)", "told(0, 8) = NONE", "told(1, 8) = 0",
            "crew(0, 0) = 1", "crew(1, 0) = NONE");
        // 2 fits both hands: it has the lesser one.
        EDGES.run("move(0, 0, 60, 1)", "move(1, 0, 60, 1)", "move(2, 10, 60, 1)", "told(0, 8) = 0", "told(1, 8) = 1",
            "told(2, 8) = 0", "shift(2, -9)", "told(2, 8) = 1", "hands(0) = 2");
        // 1 would fit hand 0, but then there would have to be a third hand.
        EDGES.run("move(0, 0, 50, 5)", "move(5, 10, 50, 5)", "move(9, 0, 50, 5)", "move(0, 5, 40, 5)", "hands(0) = 2",
            "told(0, 8) = 0", "told(1, 8) = 1", "told(2, 8) = 1", "told(3, 8) = 0");
    }

    private static void constants() {
        EDGES.sentence("The constants: `UNKNOWN = -1, OUTSIDE = -2, STATE = -3, FULL = -4, NO = -5, NONE = -6`: What "
            + "refused calls answer; NONE: there is none.");
        int[] constants = {StageLines.UNKNOWN, StageLines.OUTSIDE, StageLines.STATE, StageLines.FULL, StageLines.NO,
            StageLines.NONE};
        for (int i = 0; i < constants.length; i++) {
            EDGES.same("constant " + i, constants[i], -1 - i);
        }
        EDGES.plain("Ahead of the calls `set`, `load`, `take`, `bar`, `loading`, `loadings` the interface says: ---- 1 "
            + "bars.");
        EDGES.plain("Ahead of the calls `move`, `drop`, `shift`, `told`, `height` the interface says: ---- 2 moves.");
        EDGES.plain("Ahead of the calls `strike`, `clash`, `often` the interface says: ---- 3 strikes.");
        EDGES.plain("Ahead of the calls `hands`, `crew` the interface says: ---- 4 hands.");
        EDGES.plain("Ahead of the calls `image`, `restore`, `count` the interface says: ---- 5 images.");
    }
}
