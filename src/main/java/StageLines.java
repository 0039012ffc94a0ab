import java.util.Arrays;

/** Lines over a stage: bars, what is loaded on them, their moves, strikes and the hands that are needed. */
public final class StageLines {
    public static final int UNKNOWN = -1, OUTSIDE = -2, STATE = -3, FULL = -4, NO = -5, NONE = -6;

    private static final int BARS = 10;
    private static final int MOVES = 10;
    private static final int PILE_LIMIT = 6;
    private static final int PILE_SETS = 1 << PILE_LIMIT;
    private static final int IMAGES = 2;
    private static final int LAST_BEGIN = 200;
    private static final int LAST_TIME = 300;
    private static final int GREATEST_HEIGHT = 60;
    private static final int GREATEST_PACE = 5;
    private static final int GREATEST_WEIGHT = 50;
    private static final int FIRST_BRICK = 10;

    private static final int HOME = 0;
    private static final int DROP = 1;
    private static final int REACH = 2;
    private static final int SWAY = 3;
    private static final int[] GREATEST_SETTING = {GREATEST_HEIGHT, 40, 3, 100};

    private final Stage stage = new Stage();
    private final Stage[] images = new Stage[IMAGES];
    private int keptImages = 0;

    private final Loader loader = new Loader();
    private final Flight flight = new Flight();
    private final CrewFinder crewFinder = new CrewFinder();

    public StageLines() {
        for (int k = 0; k < IMAGES; k++) {
            images[k] = new Stage();
        }
    }

    // ---- 1 bars

    public int set(int bar, int what, int n) {
        if (!isBar(bar)) {
            return UNKNOWN;
        }
        if (!within(what, HOME, SWAY) || !within(n, 0, GREATEST_SETTING[what])) {
            return OUTSIDE;
        }
        int was;
        if (what == SWAY) {
            was = stage.sway;
            stage.sway = n;
        } else {
            was = stage.bars[bar].settings[what];
            stage.bars[bar].settings[what] = n;
        }
        return was;
    }

    public int load(int bar, int side, int weight) {
        if (!isBar(bar)) {
            return UNKNOWN;
        }
        if (!within(side, 0, 1) || !within(weight, 1, GREATEST_WEIGHT)) {
            return OUTSIDE;
        }
        Pile pile = stage.bars[bar].pileOf(side);
        if (pile.size >= PILE_LIMIT) {
            return FULL;
        }
        pile.add(weight);
        return pile.size;
    }

    public int take(int bar, int side, int k) {
        if (!isBar(bar)) {
            return UNKNOWN;
        }
        if (!within(side, 0, 1)) {
            return OUTSIDE;
        }
        Pile pile = stage.bars[bar].pileOf(side);
        if (!within(k, 0, pile.size - 1)) {
            return NO;
        }
        return pile.remove(k);
    }

    public int bar(int bar, int what) {
        if (!isBar(bar)) {
            return UNKNOWN;
        }
        Bar one = stage.bars[bar];
        if (within(what, 10, 9 + PILE_LIMIT)) {
            return one.pieces.weightOf(what - 10);
        }
        if (within(what, 20, 19 + PILE_LIMIT)) {
            return one.bricks.weightOf(what - 20);
        }
        switch (what) {
            case 0: return one.settings[HOME];
            case 1: return one.settings[DROP];
            case 2: return one.settings[REACH];
            case 3: return one.pieces.size;
            case 4: return one.bricks.size;
            case 5: return one.pieces.total();
            case 6: return one.bricks.total();
            case 7: return one.isEven(stage.sway) ? 1 : 0;
            case 8: return stage.movesOf(bar);
            default: return OUTSIDE;
        }
    }

    public int loading(int bar, int k) {
        if (!isBar(bar)) {
            return UNKNOWN;
        }
        if (k < -1) {
            return OUTSIDE;
        }
        loader.reckon(stage.bars[bar], stage.sway);
        if (loader.allOrders() == 0) {
            return NONE;
        }
        return k == -1 ? loader.things() : loader.placed(k);
    }

    public int loadings(int bar) {
        if (!isBar(bar)) {
            return UNKNOWN;
        }
        loader.reckon(stage.bars[bar], stage.sway);
        return loader.allOrders();
    }

    // ---- 2 moves

    public int move(int bar, int time, int height, int pace) {
        if (!isBar(bar)) {
            return UNKNOWN;
        }
        if (!within(time, 0, LAST_BEGIN) || !within(height, 0, GREATEST_HEIGHT) || !within(pace, 1, GREATEST_PACE)) {
            return OUTSIDE;
        }
        if (stage.moveAt(bar, time) >= 0) {
            return NO;
        }
        if (stage.moveCount >= MOVES) {
            return FULL;
        }
        return stage.addMove(bar, time, height, pace);
    }

    public int drop(int move) {
        if (!isMove(move)) {
            return UNKNOWN;
        }
        stage.removeMove(move);
        return stage.moveCount;
    }

    public int shift(int move, int by) {
        if (!isMove(move)) {
            return UNKNOWN;
        }
        Move one = stage.moves[move];
        // The bounds are moved, not the TIME: TIME and by together could wrap around.
        if (!within(by, -one.begin, LAST_BEGIN - one.begin)) {
            return OUTSIDE;
        }
        int begin = one.begin + by;
        int there = stage.moveAt(one.bar, begin);
        if (there >= 0 && there != move) {
            return NO;
        }
        one.begin = begin;
        return begin;
    }

    public int told(int move, int what) {
        if (!isMove(move)) {
            return UNKNOWN;
        }
        Move one = stage.moves[move];
        switch (what) {
            case 0: return one.bar;
            case 1: return one.begin;
            case 2: return one.target;
            case 3: return one.pace;
            case 4:
            case 5:
            case 6:
            case 7: return flownBy(move, what);
            case 8:
                crewFinder.gather(stage, flight);
                return crewFinder.handOf[move];
            default: return OUTSIDE;
        }
    }

    public int height(int bar, int time) {
        if (!isBar(bar)) {
            return UNKNOWN;
        }
        if (!isTime(time)) {
            return OUTSIDE;
        }
        flight.trace(stage, bar);
        return flight.heights[bar][time];
    }

    // ---- 3 strikes

    public int strike(int one, int other, int time) {
        if (!isBar(one) || !isBar(other)) {
            return UNKNOWN;
        }
        if (one == other || !isTime(time)) {
            return OUTSIDE;
        }
        flight.trace(stage, one);
        flight.trace(stage, other);
        return flight.canStrike(stage, one, other) && flight.overlap(stage, one, other, time) ? 1 : 0;
    }

    public int clash(int from, int what) {
        if (!isTime(from) || !within(what, 0, 2)) {
            return OUTSIDE;
        }
        flight.traceAll(stage);
        int first = LAST_TIME + 1;
        int lesser = NONE;
        int greater = NONE;
        // Pairs come in the order in which one goes ahead of another, so only an earlier TIME displaces one.
        for (int a = 0; a < BARS; a++) {
            for (int b = a + 1; b < BARS; b++) {
                int time = flight.firstStrike(stage, a, b, from, first);
                if (time < first) {
                    first = time;
                    lesser = a;
                    greater = b;
                }
            }
        }
        if (first > LAST_TIME) {
            return NONE;
        }
        return what == 0 ? first : what == 1 ? lesser : greater;
    }

    public int often(int one, int other) {
        if (!isBar(one) || !isBar(other)) {
            return UNKNOWN;
        }
        if (one == other) {
            return OUTSIDE;
        }
        flight.trace(stage, one);
        flight.trace(stage, other);
        return flight.strikesOf(stage, one, other);
    }

    // ---- 4 hands

    public int hands(int what) {
        if (!within(what, 0, 2)) {
            return OUTSIDE;
        }
        crewFinder.gather(stage, flight);
        return what == 0 ? crewFinder.least : what == 1 ? crewFinder.doableCount() : crewFinder.mostAtOnce(stage);
    }

    public int crew(int h, int k) {
        if (!within(h, 0, MOVES - 1)) {
            return OUTSIDE;
        }
        crewFinder.gather(stage, flight);
        return crewFinder.turn(stage, h, k);
    }

    // ---- 5 images

    public int image(int k) {
        if (!within(k, 0, IMAGES - 1)) {
            return OUTSIDE;
        }
        images[k].copyFrom(stage);
        keptImages |= 1 << k;
        return 1;
    }

    public int restore(int k) {
        if (!within(k, 0, IMAGES - 1)) {
            return OUTSIDE;
        }
        if (((keptImages >> k) & 1) == 0) {
            return STATE;
        }
        stage.copyFrom(images[k]);
        return 1;
    }

    public int count(int what) {
        switch (what) {
            case 0: return stage.moveCount;
            case 1: return stage.sway;
            case 2: return stage.evenBars();
            case 3: return stage.nearPairs();
            case 4: return lastEnd();
            case 5: return keptImages;
            default: return OUTSIDE;
        }
    }

    // ---- what the calls share

    private static boolean within(int n, int least, int greatest) {
        return n >= least && n <= greatest;
    }

    private static boolean isBar(int n) {
        return within(n, 0, BARS - 1);
    }

    private static boolean isTime(int n) {
        return within(n, 0, LAST_TIME);
    }

    private boolean isMove(int n) {
        return within(n, 0, stage.moveCount - 1);
    }

    /** What told says of a MOVE's way: its END (4), the HEIGHTS at both ends of it (5, 6), whether it is CUT (7). */
    private int flownBy(int move, int what) {
        Move one = stage.moves[move];
        flight.trace(stage, one.bar);
        int end = flight.endOf(stage, move);
        int heightAtEnd = flight.heights[one.bar][end];
        switch (what) {
            case 4: return end;
            case 5: return flight.heights[one.bar][one.begin];
            case 6: return heightAtEnd;
            // A MOVE that is not CUT ENDS just where its HEIGHT is reached.
            default: return heightAtEnd != one.target ? 1 : 0;
        }
    }

    private int lastEnd() {
        flight.traceAll(stage);
        int last = NONE;
        for (int m = 0; m < stage.moveCount; m++) {
            last = Math.max(last, flight.endOf(stage, m));
        }
        return last;
    }

    /** The PIECES, or the BRICKS, of one BAR. */
    private static final class Pile {
        final int[] weights = new int[PILE_LIMIT];
        int size = 0;

        void add(int weight) {
            weights[size] = weight;
            size++;
        }

        int remove(int k) {
            int weight = weights[k];
            for (int i = k + 1; i < size; i++) {
                weights[i - 1] = weights[i];
            }
            size--;
            return weight;
        }

        int weightOf(int k) {
            return k < size ? weights[k] : NONE;
        }

        int total() {
            int sum = 0;
            for (int k = 0; k < size; k++) {
                sum += weights[k];
            }
            return sum;
        }

        void copyFrom(Pile other) {
            System.arraycopy(other.weights, 0, weights, 0, PILE_LIMIT);
            size = other.size;
        }
    }

    private static final class Bar {
        /** HOME, DROP, REACH. */
        final int[] settings = {GREATEST_HEIGHT, 0, 0};
        final Pile pieces = new Pile();
        final Pile bricks = new Pile();

        Pile pileOf(int side) {
            return side == 0 ? pieces : bricks;
        }

        boolean isEven(int sway) {
            return Math.abs(pieces.total() - bricks.total()) <= sway;
        }

        void copyFrom(Bar other) {
            System.arraycopy(other.settings, 0, settings, 0, settings.length);
            pieces.copyFrom(other.pieces);
            bricks.copyFrom(other.bricks);
        }
    }

    private static final class Move {
        int bar = 0;
        int begin = 0;
        int target = 0;
        int pace = 1;

        /** The HEIGHT one TIME later of a BAR that this MOVE moves. */
        int stepFrom(int height) {
            if (Math.abs(target - height) <= pace) {
                return target;
            }
            return height < target ? height + pace : height - pace;
        }

        void copyFrom(Move other) {
            bar = other.bar;
            begin = other.begin;
            target = other.target;
            pace = other.pace;
        }
    }

    /** All that an IMAGE keeps. */
    private static final class Stage {
        final Bar[] bars = new Bar[BARS];
        final Move[] moves = new Move[MOVES];
        int moveCount = 0;
        int sway = 20;

        Stage() {
            for (int b = 0; b < BARS; b++) {
                bars[b] = new Bar();
            }
            for (int m = 0; m < MOVES; m++) {
                moves[m] = new Move();
            }
        }

        void copyFrom(Stage other) {
            for (int b = 0; b < BARS; b++) {
                bars[b].copyFrom(other.bars[b]);
            }
            for (int m = 0; m < MOVES; m++) {
                moves[m].copyFrom(other.moves[m]);
            }
            moveCount = other.moveCount;
            sway = other.sway;
        }

        int addMove(int bar, int begin, int target, int pace) {
            Move one = moves[moveCount];
            one.bar = bar;
            one.begin = begin;
            one.target = target;
            one.pace = pace;
            moveCount++;
            return moveCount - 1;
        }

        void removeMove(int move) {
            for (int m = move + 1; m < moveCount; m++) {
                moves[m - 1].copyFrom(moves[m]);
            }
            moveCount--;
        }

        int movesOf(int bar) {
            int sum = 0;
            for (int m = 0; m < moveCount; m++) {
                if (moves[m].bar == bar) {
                    sum++;
                }
            }
            return sum;
        }

        /** The MOVE of a BAR that begins at a TIME, -1 if none does. */
        int moveAt(int bar, int time) {
            int m = firstMoveFrom(bar, time);
            return m >= 0 && moves[m].begin == time ? m : -1;
        }

        /** Of the MOVES of a BAR that begin at a TIME or later that which begins first, -1 if there is none. */
        int firstMoveFrom(int bar, int time) {
            int first = -1;
            for (int m = 0; m < moveCount; m++) {
                boolean fits = moves[m].bar == bar && moves[m].begin >= time;
                if (fits && (first < 0 || moves[m].begin < moves[first].begin)) {
                    first = m;
                }
            }
            return first;
        }

        boolean areNear(int one, int other) {
            return Math.abs(one - other) <= bars[one].settings[REACH] + bars[other].settings[REACH];
        }

        boolean isDoable(int move) {
            return bars[moves[move].bar].isEven(sway);
        }

        int evenBars() {
            int sum = 0;
            for (int b = 0; b < BARS; b++) {
                if (bars[b].isEven(sway)) {
                    sum++;
                }
            }
            return sum;
        }

        int nearPairs() {
            int sum = 0;
            for (int a = 0; a < BARS; a++) {
                for (int b = a + 1; b < BARS; b++) {
                    if (areNear(a, b)) {
                        sum++;
                    }
                }
            }
            return sum;
        }
    }

    /**
     * The LOADINGS of one BAR. What is loaded is a set of PIECES and a set of BRICKS, as bits; how the rest can follow
     * depends on these sets alone, not on the order in which they were loaded.
     */
    private static final class Loader {
        private final int[] pieceSums = new int[PILE_SETS];
        private final int[] brickSums = new int[PILE_SETS];
        /** In how many orders the rest can be loaded behind a set of each. At most 12!, which an int holds. */
        private final int[] orders = new int[PILE_SETS * PILE_SETS];
        private int pieceCount = 0;
        private int brickCount = 0;

        void reckon(Bar bar, int sway) {
            pieceCount = bar.pieces.size;
            brickCount = bar.bricks.size;
            fillSums(bar.pieces, pieceSums);
            fillSums(bar.bricks, brickSums);
            // Greater sets first: what can follow a set is told by the sets that hold one more.
            for (int bricks = (1 << brickCount) - 1; bricks >= 0; bricks--) {
                for (int pieces = (1 << pieceCount) - 1; pieces >= 0; pieces--) {
                    boolean balanced = Math.abs(pieceSums[pieces] - brickSums[bricks]) <= sway;
                    orders[indexOf(pieces, bricks)] = balanced ? ordersBehind(pieces, bricks) : 0;
                }
            }
        }

        /** How many LOADINGS there are. */
        int allOrders() {
            return orders[0];
        }

        int things() {
            return pieceCount + brickCount;
        }

        /** The k-th of the first LOADING; NONE: it has no k-th one. */
        int placed(int k) {
            if (k >= things()) {
                return NONE;
            }
            int pieces = 0;
            int bricks = 0;
            int next = NONE;
            for (int i = 0; i <= k; i++) {
                next = leastBehind(pieces, bricks);
                if (next >= FIRST_BRICK) {
                    bricks |= 1 << (next - FIRST_BRICK);
                } else if (next >= 0) {
                    pieces |= 1 << next;
                }
            }
            return next;
        }

        private static void fillSums(Pile pile, int[] sums) {
            sums[0] = 0;
            for (int k = 0; k < pile.size; k++) {
                int bit = 1 << k;
                for (int set = 0; set < bit; set++) {
                    sums[set + bit] = sums[set] + pile.weights[k];
                }
            }
        }

        private static int indexOf(int pieces, int bricks) {
            return bricks * PILE_SETS + pieces;
        }

        private int ordersBehind(int pieces, int bricks) {
            if (pieces == (1 << pieceCount) - 1 && bricks == (1 << brickCount) - 1) {
                return 1;
            }
            int sum = 0;
            for (int k = 0; k < pieceCount; k++) {
                if (((pieces >> k) & 1) == 0) {
                    sum += orders[indexOf(pieces | (1 << k), bricks)];
                }
            }
            for (int k = 0; k < brickCount; k++) {
                if (((bricks >> k) & 1) == 0) {
                    sum += orders[indexOf(pieces, bricks | (1 << k))];
                }
            }
            return sum;
        }

        /** The least that can be loaded next so that the rest can follow. */
        private int leastBehind(int pieces, int bricks) {
            for (int k = 0; k < pieceCount; k++) {
                if (((pieces >> k) & 1) == 0 && orders[indexOf(pieces | (1 << k), bricks)] > 0) {
                    return k;
                }
            }
            for (int k = 0; k < brickCount; k++) {
                if (((bricks >> k) & 1) == 0 && orders[indexOf(pieces, bricks | (1 << k))] > 0) {
                    return FIRST_BRICK + k;
                }
            }
            return NONE;
        }
    }

    /** How high the BARS are at all TIMES. A BAR is to be traced ahead of what is asked of it. */
    private static final class Flight {
        final int[][] heights = new int[BARS][LAST_TIME + 1];

        void trace(Stage stage, int bar) {
            int[] row = heights[bar];
            row[0] = stage.bars[bar].settings[HOME];
            int leading = -1;
            int next = stage.firstMoveFrom(bar, 0);
            for (int t = 1; t <= LAST_TIME; t++) {
                if (next >= 0 && stage.moves[next].begin == t - 1) {
                    leading = next;
                    next = stage.firstMoveFrom(bar, t);
                }
                row[t] = leading < 0 ? row[t - 1] : stage.moves[leading].stepFrom(row[t - 1]);
            }
        }

        void traceAll(Stage stage) {
            for (int b = 0; b < BARS; b++) {
                trace(stage, b);
            }
        }

        /** LAST_TIME is never met: a MOVE begins at 200 at the latest and has no more than 60 to go. */
        int endOf(Stage stage, int move) {
            Move one = stage.moves[move];
            int next = stage.firstMoveFrom(one.bar, one.begin + 1);
            int limit = next < 0 ? LAST_TIME : stage.moves[next].begin;
            int end = one.begin;
            while (end < limit && heights[one.bar][end] != one.target) {
                end++;
            }
            return end;
        }

        /** What holds at every TIME at which two BARS STRIKE. */
        boolean canStrike(Stage stage, int one, int other) {
            boolean bothHang = stage.bars[one].settings[DROP] > 0 && stage.bars[other].settings[DROP] > 0;
            return bothHang && stage.areNear(one, other);
        }

        /** Whether what hangs on the one and on the other BAR has more than a point of HEIGHT together. */
        boolean overlap(Stage stage, int one, int other, int time) {
            int oneHeight = heights[one][time];
            int otherHeight = heights[other][time];
            int oneFoot = oneHeight - stage.bars[one].settings[DROP];
            int otherFoot = otherHeight - stage.bars[other].settings[DROP];
            return Math.max(oneFoot, otherFoot) < Math.min(oneHeight, otherHeight);
        }

        /** The first TIME, from one on and ahead of a limit, at which two BARS STRIKE; else the limit. */
        int firstStrike(Stage stage, int one, int other, int from, int limit) {
            if (!canStrike(stage, one, other)) {
                return limit;
            }
            for (int t = from; t < limit; t++) {
                if (overlap(stage, one, other, t)) {
                    return t;
                }
            }
            return limit;
        }

        int strikesOf(Stage stage, int one, int other) {
            if (!canStrike(stage, one, other)) {
                return 0;
            }
            int sum = 0;
            for (int t = 0; t <= LAST_TIME; t++) {
                if (overlap(stage, one, other, t)) {
                    sum++;
                }
            }
            return sum;
        }
    }

    /** THE HANDS and THE CREW. */
    private static final class CrewFinder {
        /** THE HANDS. */
        int least = 0;
        /** The hand that does a MOVE; NONE: it cannot be done. */
        final int[] handOf = new int[MOVES];
        private final boolean[] doable = new boolean[MOVES];
        private final int[] ends = new int[MOVES];
        /** The MOVES, as bits, that no hand can do that does this one. */
        private final int[] foes = new int[MOVES];
        /** The MOVES, as bits, that a hand does. */
        private final int[] doneBy = new int[MOVES];
        private int size = 0;

        void gather(Stage stage, Flight flight) {
            size = stage.moveCount;
            flight.traceAll(stage);
            for (int m = 0; m < size; m++) {
                doable[m] = stage.isDoable(m);
                ends[m] = flight.endOf(stage, m);
            }
            for (int m = 0; m < size; m++) {
                foes[m] = foesOf(stage, m);
            }
            Arrays.fill(doneBy, 0);
            least = 0;
            // As many hands as there are MOVES always do: then each has one of its own.
            boolean given = giveFrom(0);
            while (!given && least < size) {
                least++;
                given = giveFrom(0);
            }
        }

        int doableCount() {
            int sum = 0;
            for (int m = 0; m < size; m++) {
                if (doable[m]) {
                    sum++;
                }
            }
            return sum;
        }

        /** The most is reached as some MOVE begins: at other TIMES none is added. */
        int mostAtOnce(Stage stage) {
            int most = 0;
            for (int m = 0; m < size; m++) {
                most = Math.max(most, doneAt(stage, stage.moves[m].begin));
            }
            return most;
        }

        /** The k-th MOVE of a hand: that ahead of which k others of this hand begin. */
        int turn(Stage stage, int hand, int k) {
            for (int m = 0; m < size; m++) {
                if (handOf[m] == hand && turnsAhead(stage, m) == k) {
                    return m;
                }
            }
            return NONE;
        }

        private int doneAt(Stage stage, int time) {
            int sum = 0;
            for (int m = 0; m < size; m++) {
                if (doable[m] && stage.moves[m].begin <= time && ends[m] > time) {
                    sum++;
                }
            }
            return sum;
        }

        private int turnsAhead(Stage stage, int move) {
            int sum = 0;
            for (int m = 0; m < size; m++) {
                if (handOf[m] == handOf[move] && stage.moves[m].begin < stage.moves[move].begin) {
                    sum++;
                }
            }
            return sum;
        }

        private int foesOf(Stage stage, int move) {
            int set = 0;
            for (int m = 0; m < size; m++) {
                if (m != move && !reaches(stage, m, move) && !reaches(stage, move, m)) {
                    set |= 1 << m;
                }
            }
            return set;
        }

        /** Whether a hand that has done one MOVE is at the other one's BAR in time. */
        private boolean reaches(Stage stage, int one, int other) {
            int way = Math.abs(stage.moves[one].bar - stage.moves[other].bar);
            return ends[one] <= stage.moves[other].begin - way;
        }

        /**
         * Gives the MOVES from one on to hands below the least number, lesser hands first, so that the way that is
         * found first is the one that the document asks for. The depth is the MOVE: 10 at the most.
         */
        private boolean giveFrom(int move) {
            if (move >= size) {
                return true;
            }
            if (!doable[move]) {
                handOf[move] = NONE;
                return giveFrom(move + 1);
            }
            for (int h = 0; h < least; h++) {
                boolean idle = doneBy[h] == 0;
                if ((doneBy[h] & foes[move]) == 0) {
                    doneBy[h] |= 1 << move;
                    handOf[move] = h;
                    if (giveFrom(move + 1)) {
                        return true;
                    }
                    doneBy[h] &= ~(1 << move);
                }
                // Hands that do nothing yet are alike: where one fails, the others would.
                if (idle) {
                    return false;
                }
            }
            return false;
        }
    }
}
