/** Promises 18 to 20: image, restore, count. */
public final class ImagesTest {
    private static final Due DUE = new Due("ImagesTest");
    private static final int MIN = Integer.MIN_VALUE;
    private static final int MAX = Integer.MAX_VALUE;

    public static void main(String[] args) {
        restoreBringsAllBack();
        imagesAreApart();
        imageIsWrittenOver();
        imageOfNothing();
        imageRefuses();
        countTells();
        countOfPairs();
        countOfEnds();
        countRefuses();
        constants();
        DUE.close();
    }

    private static StageLines filled() {
        StageLines x = new StageLines();
        x.set(1, 0, 41);
        x.set(1, 1, 31);
        x.set(1, 2, 2);
        x.set(1, 3, 17);
        x.load(1, 0, 8);
        x.load(1, 0, 9);
        x.load(1, 1, 7);
        x.move(1, 30, 20, 3);
        x.move(2, 40, 10, 4);
        return x;
    }

    private static void tellsFilled(StageLines x) {
        int[] bar = {41, 31, 2, 2, 1, 17, 7, 1, 1};
        for (int what = 0; what < bar.length; what++) {
            DUE.due("19 bar(1, " + what + ")", x.bar(1, what), bar[what]);
        }
        DUE.due("19 PIECE 0", x.bar(1, 10), 8);
        DUE.due("19 PIECE 1", x.bar(1, 11), 9);
        DUE.due("19 BRICK 0", x.bar(1, 20), 7);
        int[][] moves = {{1, 30, 20, 3}, {2, 40, 10, 4}};
        for (int m = 0; m < 2; m++) {
            for (int what = 0; what < 4; what++) {
                DUE.due("19 told(" + m + ", " + what + ")", x.told(m, what), moves[m][what]);
            }
        }
        DUE.due("19 how many MOVES", x.count(0), 2);
        DUE.due("19 SWAY", x.count(1), 17);
        DUE.due("19 nothing on another bar", x.bar(9, 3), 0);
    }

    private static void changeAll(StageLines x) {
        x.set(1, 0, 1);
        x.set(1, 1, 2);
        x.set(1, 2, 3);
        x.set(1, 3, 4);
        x.take(1, 0, 0);
        x.take(1, 1, 0);
        x.load(9, 0, 3);
        x.drop(0);
        x.shift(0, 5);
        x.move(7, 7, 7, 1);
        x.move(8, 7, 7, 1);
    }

    private static void restoreBringsAllBack() {
        for (int k = 0; k < 2; k++) {
            StageLines x = filled();
            DUE.due("18 image", x.image(k), 1);
            tellsFilled(x);
            changeAll(x);
            DUE.due("19 changed", x.bar(1, 0), 1);
            DUE.due("19 restore", x.restore(k), 1);
            tellsFilled(x);
            changeAll(x);
            DUE.due("19 the IMAGE stays", x.restore(k), 1);
            tellsFilled(x);
            DUE.due("19 what is kept", x.count(5), 1 << k);
        }
    }

    private static void imagesAreApart() {
        StageLines x = new StageLines();
        x.image(0);
        x.set(0, 0, 5);
        DUE.due("19 only 0 is kept", x.restore(1), StageLines.STATE);
        DUE.due("19 refused restore changes nothing", x.bar(0, 0), 5);
        x.image(1);
        x.set(0, 0, 6);
        DUE.due("20 both are kept", x.count(5), 3);
        x.restore(0);
        DUE.due("19 of 0", x.bar(0, 0), 60);
        DUE.due("19 IMAGES are not part of it", x.count(5), 3);
        x.restore(1);
        DUE.due("19 of 1", x.bar(0, 0), 5);
    }

    private static void imageIsWrittenOver() {
        StageLines x = filled();
        x.image(0);
        changeAll(x);
        DUE.due("18 in its place", x.image(0), 1);
        x.set(1, 0, 50);
        x.restore(0);
        DUE.due("18 the later one", x.bar(1, 0), 1);
        DUE.due("18 the later one's MOVES", x.count(0), 3);
        DUE.due("18 the later one's first MOVE", x.told(0, 1), 45);
    }

    private static void imageOfNothing() {
        StageLines x = new StageLines();
        x.image(1);
        changeAll(x);
        x.restore(1);
        DUE.due("18 no MOVE", x.count(0), 0);
        DUE.due("18 no MOVE is told", x.told(0, 0), StageLines.UNKNOWN);
        DUE.due("18 nothing is loaded", x.bar(9, 3), 0);
        DUE.due("18 a first MOVE", x.move(7, 7, 7, 1), 0);
    }

    private static void imageRefuses() {
        StageLines x = new StageLines();
        int[] ks = {-1, 2, 32, 33, MIN, MAX};
        for (int k : ks) {
            DUE.due("18 image(" + k + ")", x.image(k), StageLines.OUTSIDE);
            DUE.due("19 restore(" + k + ")", x.restore(k), StageLines.OUTSIDE);
        }
        DUE.due("19 restore(0)", x.restore(0), StageLines.STATE);
        DUE.due("19 restore(1)", x.restore(1), StageLines.STATE);
        DUE.due("18 none is kept", x.count(5), 0);
    }

    private static void countTells() {
        StageLines x = filled();
        DUE.due("20 MOVES", x.count(0), 2);
        DUE.due("20 SWAY", x.count(1), 17);
        DUE.due("20 EVEN", x.count(2), 10);
        x.load(5, 0, 18);
        x.load(6, 1, 18);
        DUE.due("20 EVEN less two", x.count(2), 8);
        x.set(0, 3, 18);
        DUE.due("20 EVEN again", x.count(2), 10);
        DUE.due("20 no IMAGE", x.count(5), 0);
        x.image(1);
        DUE.due("20 IMAGE 1", x.count(5), 2);
        x.image(0);
        DUE.due("20 both", x.count(5), 3);
    }

    private static void countOfPairs() {
        StageLines x = new StageLines();
        DUE.due("20 none is NEAR", x.count(3), 0);
        x.set(0, 2, 1);
        DUE.due("20 at the edge", x.count(3), 1);
        x.set(0, 2, 3);
        DUE.due("20 at the edge by 3", x.count(3), 3);
        x.set(5, 2, 2);
        // 5 with 3, 4, 6, 7, and with 0, as 3 and 2 are 5.
        DUE.due("20 added", x.count(3), 8);
        for (int b = 0; b < 10; b++) {
            x.set(b, 2, 3);
        }
        // Up to 6 apart: 9 + 8 + 7 + 6 + 5 + 4.
        DUE.due("20 all by 3", x.count(3), 39);
    }

    private static void countOfEnds() {
        StageLines x = new StageLines();
        DUE.due("20 no END", x.count(4), StageLines.NONE);
        x.move(0, 0, 60, 1);
        DUE.due("20 END at 0", x.count(4), 0);
        x.move(1, 100, 0, 1);
        DUE.due("20 END at 160", x.count(4), 160);
        x.move(2, 150, 50, 5);
        DUE.due("20 the last one that ENDS, not that begins", x.count(4), 160);
        x.load(1, 0, 50);
        DUE.due("20 whether it can be done or not", x.count(4), 160);
        x.move(1, 101, 59, 1);
        DUE.due("20 CUT", x.count(4), 152);
        x.move(3, 200, 0, 1);
        DUE.due("20 the very last", x.count(4), 260);
    }

    private static void countRefuses() {
        StageLines x = new StageLines();
        int[] whats = {-1, 6, MIN, MAX};
        for (int what : whats) {
            DUE.due("20 count(" + what + ")", x.count(what), StageLines.OUTSIDE);
        }
    }

    private static void constants() {
        int[] got = {StageLines.UNKNOWN, StageLines.OUTSIDE, StageLines.STATE, StageLines.FULL, StageLines.NO,
            StageLines.NONE};
        for (int i = 0; i < got.length; i++) {
            DUE.due("constant " + i, got[i], -1 - i);
        }
    }
}
