import java.util.ArrayList;
import java.util.List;
import java.util.Map;

/** Stages on which refused calls are tried: with much on them, so that a change would be seen. */
final class Scenes {
    static final String[] NEW = {};

    /** Both IMAGES are kept, each unlike the other and unlike what stands. MOVES: 0 and 1 of BAR 0, 2 of 9, 3 of 4. */
    static final String[] BUSY = {
        "set(0, 0, 50)", "set(0, 1, 10)", "set(0, 2, 1)", "set(1, 1, 20)", "set(1, 2, 2)", "set(9, 0, 0)",
        "set(9, 1, 40)", "set(9, 2, 3)", "set(8, 1, 5)",
        "load(0, 0, 10)", "load(0, 0, 12)", "load(0, 1, 11)", "load(9, 1, 20)", "load(5, 0, 21)",
        "move(0, 100, 0, 1)", "move(0, 120, 60, 5)", "move(9, 200, 60, 5)", "move(5, 0, 10, 2)",
        "image(0)",
        "set(3, 3, 35)", "load(0, 0, 7)", "take(9, 1, 0)", "load(9, 0, 3)", "drop(3)", "shift(0, 3)",
        "image(1)",
        "set(0, 0, 40)", "load(0, 1, 9)", "load(9, 1, 4)", "move(4, 7, 30, 3)", "shift(0, -3)"};

    /** As BUSY; then BARS 0 and 9 have 6 PIECES and 6 BRICKS each, and there are 10 MOVES. */
    static final String[] FULL = full();

    private Scenes() { }

    private static String[] full() {
        List<String> rows = new ArrayList<>(List.of(BUSY));
        for (int i = 3; i < 6; i++) {
            rows.add("load(0, 0, " + (20 + i) + ")");
        }
        for (int i = 2; i < 6; i++) {
            rows.add("load(0, 1, " + (20 + i) + ")");
        }
        for (int i = 1; i < 6; i++) {
            rows.add("load(9, 0, " + (30 + i) + ")");
            rows.add("load(9, 1, " + (30 + i) + ")");
        }
        for (int i = 0; i < 4; i++) {
            rows.add("move(" + 2 * i + ", " + 9 * i + ", " + 5 * i + ", " + (1 + i) + ")");
        }
        rows.add("move(0, 200, 1, 4)");
        rows.add("move(9, 100, 20, 1)");
        return rows.toArray(new String[0]);
    }

    static List<Call> calls(String... rows) {
        List<Call> calls = new ArrayList<>();
        for (String row : rows) {
            calls.add(Call.read(row, Map.of()));
        }
        return calls;
    }
}
