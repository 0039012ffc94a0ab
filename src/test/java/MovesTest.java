/** Promises 8 to 12: move, drop, shift, told, height. */
public final class MovesTest {
    private static final Due DUE = new Due("MovesTest");
    private static final int MIN = Integer.MIN_VALUE;
    private static final int MAX = Integer.MAX_VALUE;

    public static void main(String[] args) {
        moveNumbers();
        moveTakesTheEdges();
        moveRefuses();
        dropClosesUp();
        dropRefuses();
        shiftMoves();
        shiftRefuses();
        toldTells();
        toldAtItsHeightAlready();
        toldCut();
        toldReachedJustAsTheNextBegins();
        toldCutByTheFirstOfTwo();
        toldRefuses();
        heightSteps();
        heightFollowsTheLast();
        heightOfWhatCannotBeDone();
        heightRefuses();
        DUE.close();
    }

    private static void moveNumbers() {
        StageLines x = new StageLines();
        for (int i = 0; i < 10; i++) {
            DUE.due("8 move", x.move(i / 2, 10 * i, 30, 2), i);
        }
        DUE.due("8 an eleventh", x.move(9, 0, 30, 2), StageLines.FULL);
        DUE.due("8 NO ahead of FULL", x.move(0, 10, 30, 2), StageLines.NO);
        DUE.due("8 OUTSIDE ahead of NO", x.move(0, 10, 61, 2), StageLines.OUTSIDE);
        DUE.due("8 UNKNOWN ahead of FULL", x.move(10, 10, 61, 2), StageLines.UNKNOWN);
        DUE.due("8 there are ten", x.count(0), 10);
        x.drop(9);
        DUE.due("8 room again", x.move(9, 0, 30, 2), 9);
    }

    private static void moveTakesTheEdges() {
        StageLines x = new StageLines();
        DUE.due("8 least", x.move(0, 0, 0, 1), 0);
        DUE.due("8 greatest", x.move(9, 200, 60, 5), 1);
        int[] least = {0, 0, 0, 1};
        int[] greatest = {9, 200, 60, 5};
        for (int what = 0; what < 4; what++) {
            DUE.due("11 told(0, " + what + ")", x.told(0, what), least[what]);
            DUE.due("11 told(1, " + what + ")", x.told(1, what), greatest[what]);
        }
        DUE.due("8 another bar at the same TIME", x.move(1, 0, 0, 1), 2);
        DUE.due("8 the same bar at another TIME", x.move(0, 1, 0, 1), 3);
        DUE.due("8 the same bar at the same TIME", x.move(0, 1, 5, 3), StageLines.NO);
        DUE.due("8 and at the first one's", x.move(0, 0, 5, 3), StageLines.NO);
    }

    private static void moveRefuses() {
        StageLines x = new StageLines();
        int[] bars = {-1, 10, MIN, MAX};
        for (int b : bars) {
            DUE.due("8 no bar", x.move(b, 0, 0, 1), StageLines.UNKNOWN);
            DUE.due("8 no bar ahead of the TIME", x.move(b, -1, -1, 0), StageLines.UNKNOWN);
        }
        int[] times = {-1, 201, MIN, MAX};
        for (int t : times) {
            DUE.due("8 no TIME", x.move(0, t, 0, 1), StageLines.OUTSIDE);
        }
        int[] heights = {-1, 61, MIN, MAX};
        for (int h : heights) {
            DUE.due("8 no HEIGHT", x.move(0, 0, h, 1), StageLines.OUTSIDE);
        }
        int[] paces = {0, -1, 6, MIN, MAX};
        for (int p : paces) {
            DUE.due("8 no PACE", x.move(0, 0, 0, p), StageLines.OUTSIDE);
        }
        DUE.due("8 refused moves add none", x.count(0), 0);
    }

    private static void dropClosesUp() {
        StageLines x = new StageLines();
        x.move(1, 10, 11, 1);
        x.move(2, 20, 12, 2);
        x.move(3, 30, 13, 3);
        x.move(4, 40, 14, 4);
        DUE.due("9 drop the second", x.drop(1), 3);
        int[][] want = {{1, 10, 11, 1}, {3, 30, 13, 3}, {4, 40, 14, 4}};
        for (int m = 0; m < 3; m++) {
            for (int what = 0; what < 4; what++) {
                DUE.due("9 told(" + m + ", " + what + ")", x.told(m, what), want[m][what]);
            }
        }
        DUE.due("9 no fourth", x.told(3, 0), StageLines.UNKNOWN);
        DUE.due("9 the bar has none", x.bar(2, 8), 0);
        DUE.due("9 drop the last", x.drop(2), 2);
        DUE.due("9 drop the first", x.drop(0), 1);
        DUE.due("9 it was the third", x.told(0, 0), 3);
        DUE.due("9 drop the only one", x.drop(0), 0);
        DUE.due("9 its TIME is free", x.move(3, 30, 1, 1), 0);
    }

    private static void dropRefuses() {
        StageLines x = new StageLines();
        DUE.due("9 no move", x.drop(0), StageLines.UNKNOWN);
        x.move(0, 0, 0, 1);
        int[] moves = {-1, 1, 9, 10, MIN, MAX};
        for (int m : moves) {
            DUE.due("9 no move", x.drop(m), StageLines.UNKNOWN);
        }
        DUE.due("9 refused drop drops none", x.count(0), 1);
    }

    private static void shiftMoves() {
        StageLines x = new StageLines();
        x.move(0, 50, 0, 1);
        DUE.due("10 later", x.shift(0, 7), 57);
        DUE.due("10 told", x.told(0, 1), 57);
        DUE.due("10 earlier", x.shift(0, -57), 0);
        DUE.due("10 to the last", x.shift(0, 200), 200);
        DUE.due("10 by none", x.shift(0, 0), 200);
        DUE.due("10 back", x.shift(0, -200), 0);
        x.move(1, 5, 0, 1);
        DUE.due("10 another bar is no matter", x.shift(0, 5), 5);
        DUE.due("10 nothing else changes", x.told(1, 1), 5);
        DUE.due("10 nothing else changes", x.told(0, 3), 1);
        DUE.due("10 the old TIME is free", x.move(0, 0, 10, 1), 2);
    }

    private static void shiftRefuses() {
        StageLines x = new StageLines();
        DUE.due("10 no move", x.shift(0, 0), StageLines.UNKNOWN);
        x.move(0, 50, 0, 1);
        x.move(0, 60, 0, 1);
        int[] moves = {-1, 2, 10, MIN, MAX};
        for (int m : moves) {
            DUE.due("10 no move", x.shift(m, 0), StageLines.UNKNOWN);
            DUE.due("10 no move ahead of by", x.shift(m, 500), StageLines.UNKNOWN);
        }
        int[] bys = {-51, 151, 201, -201, MIN, MIN + 50, MAX, MAX - 50};
        for (int by : bys) {
            DUE.due("10 by " + by, x.shift(0, by), StageLines.OUTSIDE);
        }
        DUE.due("10 onto another", x.shift(0, 10), StageLines.NO);
        DUE.due("10 onto another, earlier", x.shift(1, -10), StageLines.NO);
        DUE.due("10 refused shift changes none", x.told(0, 1), 50);
        DUE.due("10 refused shift changes none", x.told(1, 1), 60);
        DUE.due("10 past another", x.shift(0, 11), 61);
    }

    private static void tellsWay(StageLines x, int m, int end, int from, int to, int cut) {
        DUE.due("11 told(" + m + ", 4)", x.told(m, 4), end);
        DUE.due("11 told(" + m + ", 5)", x.told(m, 5), from);
        DUE.due("11 told(" + m + ", 6)", x.told(m, 6), to);
        DUE.due("11 told(" + m + ", 7)", x.told(m, 7), cut);
    }

    private static void toldTells() {
        StageLines x = new StageLines();
        x.set(6, 0, 20);
        x.move(6, 3, 27, 3);
        tellsWay(x, 0, 6, 20, 27, 0);
        x.move(6, 100, 0, 5);
        tellsWay(x, 0, 6, 20, 27, 0);
        tellsWay(x, 1, 106, 27, 0, 0);
        x.move(5, 200, 0, 1);
        tellsWay(x, 2, 260, 60, 0, 0);
        DUE.due("11 hand", x.told(0, 8), 0);
        x.load(6, 0, 21);
        DUE.due("11 it cannot be done", x.told(0, 8), StageLines.NONE);
        DUE.due("11 the other bar's can", x.told(2, 8), 0);
        tellsWay(x, 0, 6, 20, 27, 0);
    }

    private static void toldAtItsHeightAlready() {
        StageLines x = new StageLines();
        x.move(0, 40, 60, 1);
        tellsWay(x, 0, 40, 60, 60, 0);
        x.move(0, 41, 50, 5);
        tellsWay(x, 0, 40, 60, 60, 0);
        x.move(0, 0, 60, 5);
        tellsWay(x, 2, 0, 60, 60, 0);
    }

    private static void toldCut() {
        StageLines x = new StageLines();
        x.move(0, 10, 0, 2);
        x.move(0, 20, 0, 5);
        // It goes on to the same HEIGHT, but ahead of that TIME another one began.
        tellsWay(x, 0, 20, 60, 40, 1);
        tellsWay(x, 1, 28, 40, 0, 0);
        x.shift(1, -9);
        tellsWay(x, 0, 11, 60, 58, 1);
        tellsWay(x, 1, 23, 58, 0, 0);
        x.shift(1, -2);
        // Now the second one begins ahead, and is CUT by the first.
        tellsWay(x, 1, 10, 60, 55, 1);
        tellsWay(x, 0, 38, 55, 0, 0);
        x.drop(1);
        tellsWay(x, 0, 40, 60, 0, 0);
    }

    private static void toldReachedJustAsTheNextBegins() {
        StageLines x = new StageLines();
        x.move(0, 10, 50, 5);
        x.move(0, 12, 0, 1);
        tellsWay(x, 0, 12, 60, 50, 0);
        x.shift(1, -1);
        tellsWay(x, 0, 11, 60, 55, 1);
        x.shift(1, 2);
        tellsWay(x, 0, 12, 60, 50, 0);
        tellsWay(x, 1, 63, 50, 0, 0);
    }

    private static void toldCutByTheFirstOfTwo() {
        StageLines x = new StageLines();
        x.move(0, 0, 0, 1);
        x.move(0, 30, 60, 1);
        x.move(0, 10, 55, 5);
        tellsWay(x, 0, 10, 60, 50, 1);
        tellsWay(x, 2, 11, 50, 55, 0);
        tellsWay(x, 1, 35, 55, 60, 0);
    }

    private static void toldRefuses() {
        StageLines x = new StageLines();
        DUE.due("11 no move", x.told(0, 0), StageLines.UNKNOWN);
        x.move(0, 0, 0, 1);
        int[] moves = {-1, 1, 9, 10, MIN, MAX};
        for (int m : moves) {
            DUE.due("11 no move", x.told(m, 0), StageLines.UNKNOWN);
            DUE.due("11 no move ahead of what", x.told(m, 9), StageLines.UNKNOWN);
        }
        int[] whats = {-1, 9, MIN, MAX};
        for (int what : whats) {
            DUE.due("11 no what", x.told(0, what), StageLines.OUTSIDE);
        }
    }

    private static void heightSteps() {
        StageLines x = new StageLines();
        x.set(1, 0, 10);
        x.move(1, 4, 17, 3);
        int[] up = {10, 10, 10, 10, 10, 13, 16, 17, 17};
        for (int t = 0; t < up.length; t++) {
            DUE.due("12 height(1, " + t + ")", x.height(1, t), up[t]);
        }
        x.move(1, 8, 3, 4);
        int[] down = {17, 13, 9, 5, 3, 3};
        for (int t = 0; t < down.length; t++) {
            DUE.due("12 height(1, " + (8 + t) + ")", x.height(1, 8 + t), down[t]);
        }
        DUE.due("12 it stays", x.height(1, 300), 3);
        DUE.due("12 another bar", x.height(2, 9), 60);
        x.set(1, 0, 0);
        DUE.due("12 from a new HOME", x.height(1, 6), 6);
        DUE.due("12 from a new HOME, CUT", x.height(1, 8), 12);
        x.move(2, 200, 0, 1);
        DUE.due("12 as the last begins", x.height(2, 200), 60);
        DUE.due("12 as the last has gone 1", x.height(2, 201), 59);
        DUE.due("12 ahead of its end", x.height(2, 259), 1);
        DUE.due("12 at its end", x.height(2, 260), 0);
    }

    private static void heightFollowsTheLast() {
        StageLines x = new StageLines();
        // Told out of order: what counts is when they begin, not their numbers.
        x.move(0, 20, 60, 5);
        x.move(0, 0, 0, 3);
        x.move(0, 10, 40, 1);
        DUE.due("12 by the second", x.height(0, 10), 30);
        DUE.due("12 by the third", x.height(0, 11), 31);
        DUE.due("12 as the first begins", x.height(0, 20), 40);
        DUE.due("12 by the first", x.height(0, 21), 45);
        DUE.due("12 at its HEIGHT", x.height(0, 24), 60);
    }

    private static void heightOfWhatCannotBeDone() {
        StageLines x = new StageLines();
        x.load(0, 0, 50);
        x.move(0, 0, 0, 5);
        DUE.due("12 all MOVES count", x.height(0, 12), 0);
    }

    private static void heightRefuses() {
        StageLines x = new StageLines();
        int[] bars = {-1, 10, MIN, MAX};
        for (int b : bars) {
            DUE.due("12 no bar", x.height(b, 0), StageLines.UNKNOWN);
            DUE.due("12 no bar ahead of the TIME", x.height(b, 301), StageLines.UNKNOWN);
        }
        int[] times = {-1, 301, MIN, MAX};
        for (int t : times) {
            DUE.due("12 no TIME", x.height(0, t), StageLines.OUTSIDE);
        }
        DUE.due("12 TIME 0", x.height(0, 0), 60);
        DUE.due("12 TIME 300", x.height(9, 300), 60);
    }
}
