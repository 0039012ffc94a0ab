/** Promises 1 to 7: a new object, set, load, take, bar, loading, loadings. */
public final class BarsTest {
    private static final Due DUE = new Due("BarsTest");
    private static final int MIN = Integer.MIN_VALUE;
    private static final int MAX = Integer.MAX_VALUE;

    public static void main(String[] args) {
        newObject();
        objectsAreApart();
        setAnswersWhatItWas();
        setRefuses();
        loadCounts();
        loadRefuses();
        takeClosesUp();
        takeFromFull();
        takeRefuses();
        barTells();
        barRefuses();
        evenAtTheEdge();
        loadingIsTheFirst();
        loadingWithoutOne();
        loadingsCount();
        loadingsOfMany();
        DUE.close();
    }

    private static void newObject() {
        StageLines x = new StageLines();
        for (int b = 0; b < 10; b++) {
            int[] want = {60, 0, 0, 0, 0, 0, 0, 1, 0};
            for (int what = 0; what < want.length; what++) {
                DUE.due("1 new bar(" + b + ", " + what + ")", x.bar(b, what), want[what]);
            }
            DUE.due("1 new loadings", x.loadings(b), 1);
        }
        int[] counts = {0, 20, 10, 0, StageLines.NONE, 0};
        for (int what = 0; what < counts.length; what++) {
            DUE.due("1 new count(" + what + ")", x.count(what), counts[what]);
        }
        DUE.due("1 new told(0, 0)", x.told(0, 0), StageLines.UNKNOWN);
        DUE.due("1 new restore(0)", x.restore(0), StageLines.STATE);
        DUE.due("1 new restore(1)", x.restore(1), StageLines.STATE);
    }

    private static void objectsAreApart() {
        StageLines x = new StageLines();
        StageLines y = new StageLines();
        x.set(3, 0, 7);
        x.set(0, 3, 9);
        x.load(3, 0, 5);
        x.move(3, 1, 2, 3);
        x.image(0);
        DUE.due("1 other bar(3, 0)", y.bar(3, 0), 60);
        DUE.due("1 other count(1)", y.count(1), 20);
        DUE.due("1 other bar(3, 3)", y.bar(3, 3), 0);
        DUE.due("1 other count(0)", y.count(0), 0);
        DUE.due("1 other count(5)", y.count(5), 0);
    }

    private static void setAnswersWhatItWas() {
        StageLines x = new StageLines();
        int[] first = {60, 0, 0, 20};
        int[] greatest = {60, 40, 3, 100};
        for (int what = 0; what < 4; what++) {
            DUE.due("2 set to 0", x.set(9, what, 0), first[what]);
            DUE.due("2 set to the greatest", x.set(9, what, greatest[what]), 0);
            DUE.due("2 set to 1", x.set(9, what, 1), greatest[what]);
            DUE.due("2 set to 1 again", x.set(9, what, 1), 1);
        }
        DUE.due("2 HOME of 9", x.bar(9, 0), 1);
        DUE.due("2 DROP of 9", x.bar(9, 1), 1);
        DUE.due("2 REACH of 9", x.bar(9, 2), 1);
        DUE.due("2 HOME of 8", x.bar(8, 0), 60);
        DUE.due("2 DROP of 8", x.bar(8, 1), 0);
        DUE.due("2 REACH of 8", x.bar(8, 2), 0);
        DUE.due("2 SWAY is one for all", x.set(0, 3, 33), 1);
        DUE.due("2 SWAY", x.count(1), 33);
    }

    private static void setRefuses() {
        StageLines x = new StageLines();
        int[] noBars = {-1, 10, MIN, MAX};
        for (int b : noBars) {
            DUE.due("2 set no bar", x.set(b, 0, 5), StageLines.UNKNOWN);
            DUE.due("2 set SWAY by no bar", x.set(b, 3, 5), StageLines.UNKNOWN);
            DUE.due("2 set no bar ahead of what", x.set(b, 9, 500), StageLines.UNKNOWN);
        }
        int[] noWhats = {-1, 4, MIN, MAX};
        for (int what : noWhats) {
            DUE.due("2 set no what", x.set(0, what, 0), StageLines.OUTSIDE);
        }
        int[] greatest = {60, 40, 3, 100};
        for (int what = 0; what < 4; what++) {
            int[] outside = {-1, greatest[what] + 1, MIN, MAX};
            for (int n : outside) {
                DUE.due("2 set n", x.set(0, what, n), StageLines.OUTSIDE);
            }
        }
        DUE.due("2 refused set changes no HOME", x.bar(0, 0), 60);
        DUE.due("2 refused set changes no DROP", x.bar(0, 1), 0);
        DUE.due("2 refused set changes no REACH", x.bar(0, 2), 0);
        DUE.due("2 refused set changes no SWAY", x.count(1), 20);
    }

    private static void loadCounts() {
        StageLines x = new StageLines();
        for (int side = 0; side < 2; side++) {
            for (int i = 1; i <= 6; i++) {
                DUE.due("3 load", x.load(7, side, side == 0 ? i : 51 - i), i);
            }
            DUE.due("3 load a seventh", x.load(7, side, 1), StageLines.FULL);
        }
        for (int k = 0; k < 6; k++) {
            DUE.due("3 PIECE " + k, x.bar(7, 10 + k), k + 1);
            DUE.due("3 BRICK " + k, x.bar(7, 20 + k), 50 - k);
        }
        DUE.due("3 none on another bar", x.bar(6, 3), 0);
        DUE.due("3 full: how many PIECES", x.bar(7, 3), 6);
        DUE.due("3 full: how many BRICKS", x.bar(7, 4), 6);
    }

    private static void loadRefuses() {
        StageLines x = new StageLines();
        int[] odd = {-1, 10, MIN, MAX};
        for (int b : odd) {
            DUE.due("3 load no bar", x.load(b, 0, 1), StageLines.UNKNOWN);
            DUE.due("3 load no bar ahead of the side", x.load(b, 2, 0), StageLines.UNKNOWN);
        }
        int[] sides = {-1, 2, MIN, MAX};
        for (int side : sides) {
            DUE.due("3 load no side", x.load(0, side, 1), StageLines.OUTSIDE);
        }
        int[] weights = {0, -1, 51, MIN, MAX};
        for (int weight : weights) {
            DUE.due("3 load no weight", x.load(0, 0, weight), StageLines.OUTSIDE);
            DUE.due("3 load no weight", x.load(0, 1, weight), StageLines.OUTSIDE);
        }
        DUE.due("3 refused load adds no PIECE", x.bar(0, 3), 0);
        DUE.due("3 refused load adds no BRICK", x.bar(0, 4), 0);
        for (int i = 0; i < 6; i++) {
            x.load(0, 0, 1);
        }
        DUE.due("3 OUTSIDE ahead of FULL", x.load(0, 0, 51), StageLines.OUTSIDE);
        DUE.due("3 BRICKS are not full with PIECES", x.load(0, 1, 50), 1);
    }

    private static void takeClosesUp() {
        StageLines x = new StageLines();
        x.load(2, 0, 11);
        x.load(2, 0, 12);
        x.load(2, 0, 13);
        x.load(2, 1, 21);
        x.load(2, 1, 22);
        DUE.due("4 take the middle PIECE", x.take(2, 0, 1), 12);
        DUE.due("4 PIECE 0 stays", x.bar(2, 10), 11);
        DUE.due("4 PIECE 1 was 2", x.bar(2, 11), 13);
        DUE.due("4 no PIECE 2", x.bar(2, 12), StageLines.NONE);
        DUE.due("4 BRICKS stay", x.bar(2, 4), 2);
        DUE.due("4 take the first BRICK", x.take(2, 1, 0), 21);
        DUE.due("4 BRICK 0 was 1", x.bar(2, 20), 22);
        DUE.due("4 take the last PIECE", x.take(2, 0, 1), 13);
        DUE.due("4 take the only BRICK", x.take(2, 1, 0), 22);
        DUE.due("4 no BRICK", x.take(2, 1, 0), StageLines.NO);
        DUE.due("4 load behind take", x.load(2, 0, 14), 2);
        DUE.due("4 it is PIECE 1", x.bar(2, 11), 14);
    }

    private static void takeFromFull() {
        StageLines x = new StageLines();
        for (int side = 0; side < 2; side++) {
            for (int k = 0; k < 6; k++) {
                x.load(8, side, 40 + k);
            }
            DUE.due("5 six together", x.bar(8, 5 + side), 255);
            DUE.due("4 take the first of six", x.take(8, side, 0), 40);
            DUE.due("5 five together", x.bar(8, 5 + side), 215);
            for (int k = 0; k < 5; k++) {
                DUE.due("4 those behind it", x.bar(8, 10 + 10 * side + k), 41 + k);
            }
            DUE.due("4 no sixth", x.bar(8, 15 + 10 * side), StageLines.NONE);
            DUE.due("4 take the last of five", x.take(8, side, 4), 45);
            DUE.due("5 four together", x.bar(8, 5 + side), 170);
            DUE.due("3 room again", x.load(8, side, 1), 5);
        }
    }

    private static void takeRefuses() {
        StageLines x = new StageLines();
        x.load(2, 0, 11);
        int[] odd = {-1, 10, MIN, MAX};
        for (int b : odd) {
            DUE.due("4 take no bar", x.take(b, 0, 0), StageLines.UNKNOWN);
            DUE.due("4 take no bar ahead of the side", x.take(b, 2, 0), StageLines.UNKNOWN);
        }
        int[] sides = {-1, 2, MIN, MAX};
        for (int side : sides) {
            DUE.due("4 take no side", x.take(2, side, 0), StageLines.OUTSIDE);
            DUE.due("4 take no side ahead of k", x.take(2, side, 9), StageLines.OUTSIDE);
        }
        int[] noneSuch = {-1, 1, 5, 6, MIN, MAX};
        for (int k : noneSuch) {
            DUE.due("4 take no PIECE " + k, x.take(2, 0, k), StageLines.NO);
        }
        DUE.due("4 refused take takes none", x.bar(2, 3), 1);
    }

    private static void barTells() {
        StageLines x = new StageLines();
        x.set(4, 0, 44);
        x.set(4, 1, 33);
        x.set(4, 2, 2);
        x.load(4, 0, 10);
        x.load(4, 0, 9);
        x.load(4, 1, 40);
        x.move(4, 5, 0, 1);
        x.move(4, 6, 0, 1);
        x.move(5, 6, 0, 1);
        int[] want = {44, 33, 2, 2, 1, 19, 40, 0, 2};
        for (int what = 0; what < want.length; what++) {
            DUE.due("5 bar(4, " + what + ")", x.bar(4, what), want[what]);
        }
        DUE.due("5 PIECE 0", x.bar(4, 10), 10);
        DUE.due("5 PIECE 1", x.bar(4, 11), 9);
        DUE.due("5 no PIECE 2", x.bar(4, 12), StageLines.NONE);
        DUE.due("5 no PIECE 5", x.bar(4, 15), StageLines.NONE);
        DUE.due("5 BRICK 0", x.bar(4, 20), 40);
        DUE.due("5 no BRICK 1", x.bar(4, 21), StageLines.NONE);
        DUE.due("5 no BRICK 5", x.bar(4, 25), StageLines.NONE);
        DUE.due("5 MOVES of another bar", x.bar(5, 8), 1);
    }

    private static void barRefuses() {
        StageLines x = new StageLines();
        int[] odd = {-1, 10, MIN, MAX};
        for (int b : odd) {
            DUE.due("5 no bar", x.bar(b, 0), StageLines.UNKNOWN);
            DUE.due("5 no bar ahead of what", x.bar(b, 9), StageLines.UNKNOWN);
        }
        int[] whats = {-1, 9, 16, 17, 19, 26, 30, MIN, MAX};
        for (int what : whats) {
            DUE.due("5 bar(0, " + what + ")", x.bar(0, what), StageLines.OUTSIDE);
        }
    }

    private static void evenAtTheEdge() {
        StageLines x = new StageLines();
        x.load(0, 0, 20);
        DUE.due("5 EVEN at just SWAY", x.bar(0, 7), 1);
        x.load(0, 0, 1);
        DUE.due("5 not EVEN one beyond", x.bar(0, 7), 0);
        x.load(1, 1, 20);
        DUE.due("5 EVEN at just SWAY by BRICKS", x.bar(1, 7), 1);
        x.load(1, 1, 1);
        DUE.due("5 not EVEN one beyond by BRICKS", x.bar(1, 7), 0);
        x.set(5, 3, 21);
        DUE.due("5 EVEN by the new SWAY", x.bar(0, 7), 1);
        DUE.due("5 EVEN by the new SWAY", x.bar(1, 7), 1);
        x.set(5, 3, 0);
        DUE.due("5 not EVEN by SWAY 0", x.bar(0, 7), 0);
        DUE.due("5 empty is EVEN by SWAY 0", x.bar(2, 7), 1);
    }

    private static void tellsLoading(StageLines x, int bar, int... want) {
        DUE.due("6 loading(" + bar + ", -1)", x.loading(bar, -1), want.length);
        for (int k = 0; k < want.length; k++) {
            DUE.due("6 loading(" + bar + ", " + k + ")", x.loading(bar, k), want[k]);
        }
        DUE.due("6 no loading behind the last", x.loading(bar, want.length), StageLines.NONE);
        DUE.due("6 no loading at 12", x.loading(bar, 12), StageLines.NONE);
        DUE.due("6 no loading at MAX", x.loading(bar, MAX), StageLines.NONE);
    }

    private static void loadingIsTheFirst() {
        StageLines x = new StageLines();
        tellsLoading(x, 0);
        // Light ones need no order: PIECES by number, then BRICKS.
        x.load(1, 0, 5);
        x.load(1, 0, 5);
        x.load(1, 1, 5);
        x.load(1, 1, 5);
        tellsLoading(x, 1, 0, 1, 10, 11);
        // PIECE 0 needs BRICKS of just 20 ahead of it, so BRICK 1, or BRICKS 0 and 2; then BRICK 1 ahead of PIECE 1.
        x.load(2, 0, 40);
        x.load(2, 0, 3);
        x.load(2, 1, 2);
        x.load(2, 1, 20);
        x.load(2, 1, 18);
        tellsLoading(x, 2, 10, 12, 0, 11, 1);
        // Of PIECES of one WEIGHT the lesser number comes first.
        x.load(3, 0, 20);
        x.load(3, 0, 20);
        x.load(3, 1, 40);
        tellsLoading(x, 3, 0, 10, 1);
        // PIECE 0 fits first, but behind it nothing would fit any more.
        x.load(4, 0, 5);
        x.load(4, 0, 20);
        x.load(4, 1, 40);
        tellsLoading(x, 4, 1, 10, 0);
        // A take numbers the rest anew.
        x.take(4, 0, 0);
        tellsLoading(x, 4, 0, 10);
    }

    private static void loadingWithoutOne() {
        StageLines x = new StageLines();
        x.load(0, 0, 21);
        int[] ks = {-1, 0, 1, 12, MAX};
        for (int k : ks) {
            DUE.due("6 no LOADING", x.loading(0, k), StageLines.NONE);
        }
        DUE.due("6 below -1 even so", x.loading(0, -2), StageLines.OUTSIDE);
        DUE.due("6 far below -1", x.loading(0, MIN), StageLines.OUTSIDE);
        int[] odd = {-1, 10, MIN, MAX};
        for (int b : odd) {
            DUE.due("6 no bar", x.loading(b, 0), StageLines.UNKNOWN);
            DUE.due("6 no bar ahead of k", x.loading(b, -2), StageLines.UNKNOWN);
            DUE.due("7 no bar", x.loadings(b), StageLines.UNKNOWN);
        }
        // EVEN as a whole, and yet without a LOADING.
        x.load(1, 0, 30);
        x.load(1, 1, 30);
        DUE.due("6 EVEN", x.bar(1, 7), 1);
        DUE.due("6 EVEN without a LOADING", x.loading(1, -1), StageLines.NONE);
        DUE.due("7 EVEN without a LOADING", x.loadings(1), 0);
        x.set(0, 3, 30);
        DUE.due("7 two by the new SWAY", x.loadings(1), 2);
        DUE.due("6 the PIECE first", x.loading(1, 0), 0);
        x.set(0, 3, 29);
        DUE.due("7 none by a lesser SWAY", x.loadings(1), 0);
    }

    private static void loadingsCount() {
        StageLines x = new StageLines();
        DUE.due("7 nothing to load", x.loadings(0), 1);
        x.set(0, 3, 0);
        DUE.due("7 nothing to load by SWAY 0", x.loadings(0), 1);
        x.set(0, 3, 10);
        x.load(0, 0, 10);
        DUE.due("7 one", x.loadings(0), 1);
        x.load(0, 1, 10);
        DUE.due("7 two", x.loadings(0), 2);
        // P P B B of 10 by SWAY 10: each second one brings it back to 0, so (2 of 2 x 2) x 2 = 16.
        x.load(0, 0, 10);
        x.load(0, 1, 10);
        DUE.due("7 of one WEIGHT they are unlike", x.loadings(0), 16);
        x.take(0, 1, 0);
        DUE.due("7 behind take", x.loadings(0), 4);
        DUE.due("7 another bar", x.loadings(1), 1);
    }

    private static void loadingsOfMany() {
        StageLines x = new StageLines();
        x.set(0, 3, 100);
        for (int i = 0; i < 6; i++) {
            x.load(0, 0, 1);
            x.load(0, 1, 1);
        }
        DUE.due("7 all orders of 12", x.loadings(0), 479001600);
        x.set(0, 3, 1);
        // Six times a PIECE and a BRICK, in either order: 6! x 6! x 2^6.
        DUE.due("7 in turns", x.loadings(0), 720 * 720 * 64);
        x.set(0, 3, 0);
        DUE.due("7 none by SWAY 0", x.loadings(0), 0);
        x.set(0, 3, 1);
        int[] want = {0, 10, 1, 11, 2, 12, 3, 13, 4, 14, 5, 15};
        // Behind PIECE 0 only a BRICK fits, behind that PIECE 1, and so on.
        tellsLoading(x, 0, want);
    }
}
