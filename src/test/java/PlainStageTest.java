import java.util.Random;

/** Long runs of calls, the same at every start, whose answers are those of PlainStage. */
public final class PlainStageTest {
    private static final String[] CALLS = {"set", "load", "take", "bar", "loading", "loadings", "move", "drop", "shift",
        "told", "height", "strike", "clash", "often", "hands", "crew", "image", "restore", "count"};
    /** How many arguments each of them takes. */
    private static final int[] TAKES = {3, 3, 3, 2, 2, 1, 4, 1, 2, 2, 2, 3, 2, 2, 1, 2, 1, 1, 1};
    /** How often each of them is called, in turn for runs about loads, moves, strikes, hands, and all alike. */
    private static final int[][] SHARES = {
        {3, 16, 7, 6, 16, 8, 1, 1, 1, 1, 1, 0, 0, 0, 1, 0, 1, 1, 2},
        {3, 1, 1, 2, 0, 0, 9, 3, 7, 20, 12, 0, 0, 0, 2, 2, 1, 1, 2},
        {12, 0, 0, 1, 0, 0, 6, 2, 4, 1, 4, 9, 9, 4, 0, 0, 1, 1, 2},
        {2, 3, 2, 1, 0, 0, 14, 3, 7, 12, 1, 0, 0, 0, 12, 14, 1, 1, 2},
        {1, 1, 1, 1, 1, 1, 1, 1, 1, 1, 1, 1, 1, 1, 1, 1, 1, 1, 1}};
    private static final int[] ODD = {-1, -2, -6, 10, 11, 61, 101, 201, 301, Integer.MIN_VALUE, Integer.MAX_VALUE,
        Integer.MIN_VALUE + 100, Integer.MAX_VALUE - 100, 1 << 16, -32, 32};
    private static final int RUNS = 250;
    private static final int CALLS_OF_A_RUN = 512;

    private final Random random;
    private final int[] shares;
    /** Fewer bars, and TIMES closer together, make calls meet one another more often. */
    private final int bars;
    private final int times;
    private final int weights;
    private final int oddOneIn;

    private PlainStageTest(int run) {
        random = new Random(run);
        shares = SHARES[run % SHARES.length];
        bars = 1 + random.nextInt(10);
        times = new int[] {4, 15, 40, 201}[random.nextInt(4)];
        weights = new int[] {2, 10, 50}[random.nextInt(3)];
        oddOneIn = random.nextInt(3) == 0 ? 8 : 60;
    }

    /** A call that throws ends the program, and so fails, too. */
    public static void main(String[] args) {
        Due due = new Due("PlainStageTest");
        for (int run = 0; run < RUNS; run++) {
            new PlainStageTest(run).compare(run, due);
        }
        due.close();
    }

    private void compare(int run, Due due) {
        StageLines x = new StageLines();
        PlainStage plain = new PlainStage();
        for (int i = 0; i < CALLS_OF_A_RUN; i++) {
            int which = choose();
            int[] a = new int[TAKES[which]];
            for (int j = 0; j < a.length; j++) {
                a[j] = random.nextInt(oddOneIn) == 0 ? ODD[random.nextInt(ODD.length)] : argument(which, j, a);
            }
            Call call = Call.of(CALLS[which], a);
            due.due("run " + run + ", call " + i + ": " + call, call.on(x), call.on(plain));
        }
    }

    private int choose() {
        int sum = 0;
        for (int share : shares) {
            sum += share;
        }
        int r = random.nextInt(sum);
        int call = 0;
        while (r >= shares[call]) {
            r -= shares[call];
            call++;
        }
        return call;
    }

    private int aBar() {
        return random.nextInt(bars);
    }

    /** A fit argument, the j-th of a call, mostly; now and then one beyond. */
    private int argument(int call, int j, int[] a) {
        switch (CALLS[call]) {
            case "set": return j == 0 ? aBar() : j == 1 ? random.nextInt(4) : setting(a[1]);
            case "load": return j == 0 ? aBar() : j == 1 ? random.nextInt(2) : 1 + random.nextInt(weights);
            case "take": return j == 0 ? aBar() : j == 1 ? random.nextInt(2) : random.nextInt(7);
            case "bar": return j == 0 ? aBar() : random.nextInt(27);
            case "loading": return j == 0 ? aBar() : random.nextInt(14) - 1;
            case "loadings": return aBar();
            case "move": return j == 0 ? aBar() : j == 1 ? random.nextInt(times)
                : j == 2 ? random.nextInt(61) : 1 + random.nextInt(5);
            case "drop": return random.nextInt(11);
            case "shift": return j == 0 ? random.nextInt(10) : random.nextInt(2 * times + 1) - times;
            case "told": return j == 0 ? random.nextInt(10) : random.nextInt(9);
            case "height": return j == 0 ? aBar() : random.nextInt(Math.min(301, times + 70));
            case "strike": return j < 2 ? aBar() : random.nextInt(Math.min(301, times + 70));
            case "clash": return j == 0 ? random.nextInt(Math.min(301, times + 70)) : random.nextInt(3);
            case "often": return aBar();
            case "hands": return random.nextInt(3);
            case "crew": return j == 0 ? random.nextInt(4) : random.nextInt(5);
            case "image":
            case "restore": return random.nextInt(2);
            default: return random.nextInt(6);
        }
    }

    private int setting(int what) {
        switch (what) {
            case 0: return random.nextInt(61);
            case 1: return random.nextInt(4) == 0 ? 0 : random.nextInt(41);
            case 2: return random.nextInt(4);
            default: return weights + random.nextInt(2 * weights > 50 ? 51 : 2 * weights);
        }
    }
}
