import java.util.ArrayList;
import java.util.Arrays;
import java.util.LinkedHashMap;
import java.util.List;
import java.util.Map;

/**
 * Every call with all numbers at their bounds, just beyond them, and at the least and the greatest int, in all ways to
 * put these together, on a new stage, a busy one and a full one: what it answers is what PlainStage answers; what it
 * refuses changes nothing; and what it does not refuse changes what it changes there.
 */
public final class BoundsTest {
    private static final Due DUE = new Due("BoundsTest");
    private static final int MIN = Integer.MIN_VALUE;
    private static final int MAX = Integer.MAX_VALUE;

    private static final int[] BARS = {MIN, -1, 0, 5, 9, 10, MAX};
    private static final int[] MOVES = {MIN, -1, 0, 1, 2, 3, 4, 9, 10, MAX};
    private static final int[] TIMES = {MIN, -1, 0, 100, 300, 301, MAX};
    private static final int[] SIDES = {MIN, -1, 0, 1, 2, MAX};
    private static final int[] PAIRS = {MIN, -1, 0, 1, 2, MAX};

    /** The numbers that are put in place of each argument. */
    private static final Map<String, int[][]> NUMBERS = new LinkedHashMap<>();

    static {
        NUMBERS.put("set", new int[][] {BARS, from(-1, 4), {MIN, -1, 0, 1, 3, 4, 40, 41, 60, 61, 100, 101, MAX}});
        NUMBERS.put("load", new int[][] {BARS, SIDES, {MIN, -1, 0, 1, 50, 51, MAX}});
        NUMBERS.put("take", new int[][] {BARS, SIDES, {MIN, -1, 0, 1, 2, 3, 5, 6, MAX}});
        NUMBERS.put("bar", new int[][] {BARS, from(-2, 31)});
        NUMBERS.put("loading", new int[][] {BARS, {MIN, -2, -1, 0, 4, 5, 11, 12, MAX}});
        NUMBERS.put("loadings", new int[][] {BARS});
        NUMBERS.put("move", new int[][] {BARS, {MIN, -1, 0, 100, 200, 201, MAX}, {MIN, -1, 0, 60, 61, MAX},
            {MIN, -1, 0, 1, 5, 6, MAX}});
        NUMBERS.put("drop", new int[][] {MOVES});
        NUMBERS.put("shift", new int[][] {MOVES, {MIN, MIN + 100, -201, -200, -101, -100, -20, -8, -7, -1, 0, 1, 20, 100,
            101, 193, 194, 200, 201, MAX - 200, MAX - 100, MAX}});
        NUMBERS.put("told", new int[][] {MOVES, from(-2, 11)});
        NUMBERS.put("height", new int[][] {BARS, TIMES});
        NUMBERS.put("strike", new int[][] {BARS, BARS, TIMES});
        NUMBERS.put("clash", new int[][] {TIMES, from(-1, 3)});
        NUMBERS.put("often", new int[][] {BARS, BARS});
        NUMBERS.put("hands", new int[][] {from(-1, 3)});
        NUMBERS.put("crew", new int[][] {BARS, {MIN, -1, 0, 1, 9, 10, MAX}});
        NUMBERS.put("image", new int[][] {PAIRS});
        NUMBERS.put("restore", new int[][] {PAIRS});
        NUMBERS.put("count", new int[][] {from(-1, 6)});
    }

    private final List<Call> scene;
    private final List<Integer> before;

    private BoundsTest(String[] rows) {
        scene = Scenes.calls(rows);
        before = Picture.ofHeld(StageLines::new, scene);
    }

    public static void main(String[] args) {
        for (String[] rows : List.of(Scenes.NEW, Scenes.BUSY, Scenes.FULL, oneIsKept())) {
            BoundsTest test = new BoundsTest(rows);
            for (Map.Entry<String, int[][]> entry : NUMBERS.entrySet()) {
                test.tryAll(entry.getKey(), entry.getValue(), new int[entry.getValue().length], 0);
            }
        }
        DUE.close();
    }

    /** One IMAGE is kept, the other is not. */
    private static String[] oneIsKept() {
        return new String[] {"set(0, 0, 7)", "load(9, 1, 8)", "move(0, 200, 0, 1)", "image(1)", "set(0, 0, 8)"};
    }

    private static int[] from(int least, int greatest) {
        int[] numbers = new int[greatest - least + 3];
        for (int i = 0; i <= greatest - least; i++) {
            numbers[i] = least + i;
        }
        numbers[greatest - least + 1] = MIN;
        numbers[greatest - least + 2] = MAX;
        return numbers;
    }

    /** The depth is the argument: four at the most. */
    private void tryAll(String name, int[][] numbers, int[] arguments, int at) {
        if (at == numbers.length) {
            tryOne(Call.of(name, Arrays.copyOf(arguments, at)));
            return;
        }
        for (int number : numbers[at]) {
            arguments[at] = number;
            tryAll(name, numbers, arguments, at + 1);
        }
    }

    private void tryOne(Call call) {
        Object stage = new StageLines();
        Object plain = new PlainStage();
        for (Call one : scene) {
            one.on(stage);
            one.on(plain);
        }
        int want = call.on(plain);
        DUE.due("behind " + scene.size() + " calls: " + call, call.on(stage), want);
        List<Call> run = new ArrayList<>(scene);
        run.add(call);
        List<Integer> after = Picture.ofHeld(StageLines::new, run);
        boolean refused = want < 0 && want != PlainStage.NONE;
        List<Integer> due = refused ? before : Picture.ofHeld(PlainStage::new, run);
        DUE.holds("behind " + scene.size() + " calls: what stands behind " + call, after.equals(due));
    }
}
