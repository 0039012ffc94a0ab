/** Promises 13 to 15: strike, clash, often. */
public final class StrikesTest {
    private static final Due DUE = new Due("StrikesTest");
    private static final int MIN = Integer.MIN_VALUE;
    private static final int MAX = Integer.MAX_VALUE;

    public static void main(String[] args) {
        strikeNeedsReach();
        strikeNeedsDrops();
        strikeNeedsMoreThanAPoint();
        strikeBelowTheStage();
        strikeRefuses();
        clashIsTheFirst();
        clashOfSeveralPairs();
        clashOfTheOuterBars();
        clashOfAnEarlierPair();
        clashRefuses();
        oftenCounts();
        oftenRefuses();
        DUE.close();
    }

    /** Two bars with what hangs on them; all else is new. */
    private static StageLines hung(int one, int other, int oneDrop, int otherDrop) {
        StageLines x = new StageLines();
        x.set(one, 1, oneDrop);
        x.set(other, 1, otherDrop);
        return x;
    }

    private static void strikeNeedsReach() {
        StageLines x = hung(2, 6, 10, 10);
        DUE.due("13 no REACH", x.strike(2, 6, 0), 0);
        x.set(2, 2, 3);
        DUE.due("13 one too far", x.strike(2, 6, 0), 0);
        x.set(6, 2, 1);
        DUE.due("13 REACHES added", x.strike(2, 6, 0), 1);
        DUE.due("13 the other way round", x.strike(6, 2, 0), 1);
        x.set(2, 2, 0);
        x.set(6, 2, 3);
        DUE.due("13 one too far by the other", x.strike(2, 6, 0), 0);
        x.set(2, 2, 1);
        DUE.due("13 just NEAR by the other", x.strike(2, 6, 0), 1);
        x.set(2, 2, 3);
        DUE.due("13 more than NEAR", x.strike(2, 6, 300), 1);
        DUE.due("13 another pair", x.strike(2, 5, 0), 0);
        StageLines y = hung(0, 1, 10, 10);
        DUE.due("13 neighbours without REACH", y.strike(0, 1, 0), 0);
        y.set(1, 2, 1);
        DUE.due("13 neighbours with REACH 1", y.strike(0, 1, 0), 1);
    }

    private static void strikeNeedsDrops() {
        StageLines x = hung(0, 1, 40, 0);
        x.set(0, 2, 3);
        x.set(1, 0, 40);
        DUE.due("13 one without DROP", x.strike(0, 1, 0), 0);
        DUE.due("13 one without DROP", x.strike(1, 0, 0), 0);
        x.set(1, 1, 1);
        DUE.due("13 with a DROP of 1", x.strike(0, 1, 0), 1);
        x.set(0, 1, 0);
        DUE.due("13 the other without DROP", x.strike(0, 1, 0), 0);
    }

    private static void strikeNeedsMoreThanAPoint() {
        StageLines x = hung(0, 1, 10, 5);
        x.set(0, 2, 1);
        x.set(1, 0, 50);
        DUE.due("13 a mere point below", x.strike(0, 1, 0), 0);
        x.set(1, 0, 51);
        DUE.due("13 one more", x.strike(0, 1, 0), 1);
        x.set(0, 0, 45);
        x.set(1, 0, 50);
        DUE.due("13 a mere point above", x.strike(0, 1, 0), 0);
        x.set(1, 0, 49);
        DUE.due("13 one less", x.strike(0, 1, 0), 1);
        x.set(1, 0, 42);
        DUE.due("13 the one within the other", x.strike(0, 1, 0), 1);
        x.set(1, 0, 34);
        DUE.due("13 apart", x.strike(0, 1, 0), 0);
    }

    private static void strikeBelowTheStage() {
        StageLines x = hung(0, 1, 1, 40);
        x.set(0, 2, 1);
        x.set(0, 0, 0);
        x.set(1, 0, 0);
        DUE.due("13 below 0", x.strike(0, 1, 0), 1);
        x.set(1, 0, 39);
        DUE.due("13 just below 0", x.strike(0, 1, 0), 1);
        x.set(1, 0, 40);
        DUE.due("13 a mere point at 0", x.strike(0, 1, 0), 0);
    }

    private static void strikeRefuses() {
        StageLines x = new StageLines();
        int[] bars = {-1, 10, MIN, MAX};
        for (int b : bars) {
            DUE.due("13 no bar", x.strike(b, 0, 0), StageLines.UNKNOWN);
            DUE.due("13 no other bar", x.strike(0, b, 0), StageLines.UNKNOWN);
            DUE.due("13 no bar twice", x.strike(b, b, 0), StageLines.UNKNOWN);
            DUE.due("13 no bar ahead of the TIME", x.strike(0, b, 301), StageLines.UNKNOWN);
        }
        int[] times = {-1, 301, MIN, MAX};
        for (int t : times) {
            DUE.due("13 no TIME", x.strike(0, 9, t), StageLines.OUTSIDE);
        }
        for (int b = 0; b < 10; b++) {
            DUE.due("13 they are one", x.strike(b, b, 0), StageLines.OUTSIDE);
        }
    }

    private static void tellsClash(StageLines x, int from, int time, int lesser, int other) {
        DUE.due("14 clash(" + from + ", 0)", x.clash(from, 0), time);
        DUE.due("14 clash(" + from + ", 1)", x.clash(from, 1), lesser);
        DUE.due("14 clash(" + from + ", 2)", x.clash(from, 2), other);
    }

    private static void clashIsTheFirst() {
        StageLines x = hung(3, 4, 10, 10);
        tellsClash(x, 0, StageLines.NONE, StageLines.NONE, StageLines.NONE);
        x.set(3, 2, 1);
        tellsClash(x, 0, 0, 3, 4);
        tellsClash(x, 300, 300, 3, 4);
        x.set(3, 0, 0);
        // 4 comes down to within 10 of 0 from TIME 110 on: 60 - 5 x 10 is 10, a mere point; one later it strikes.
        x.move(4, 100, 0, 5);
        tellsClash(x, 0, 111, 3, 4);
        tellsClash(x, 111, 111, 3, 4);
        tellsClash(x, 112, 112, 3, 4);
        x.move(4, 150, 60, 5);
        tellsClash(x, 151, 151, 3, 4);
        tellsClash(x, 152, StageLines.NONE, StageLines.NONE, StageLines.NONE);
        x.move(4, 200, 9, 1);
        tellsClash(x, 152, 251, 3, 4);
        x.drop(2);
        x.move(3, 200, 60, 1);
        tellsClash(x, 152, 251, 3, 4);
    }

    private static void clashOfSeveralPairs() {
        StageLines x = new StageLines();
        for (int b = 0; b < 10; b++) {
            x.set(b, 1, 5);
            x.set(b, 0, 6 * b);
        }
        x.set(5, 2, 3);
        x.set(7, 2, 3);
        tellsClash(x, 0, StageLines.NONE, StageLines.NONE, StageLines.NONE);
        x.set(7, 0, 30);
        tellsClash(x, 0, 0, 5, 7);
        x.set(6, 0, 30);
        tellsClash(x, 0, 0, 5, 6);
        x.set(2, 0, 30);
        tellsClash(x, 0, 0, 2, 5);
        // 2 and 7 are 5 apart, no farther than their REACHES, but 5 is the least other one.
        x.set(2, 2, 3);
        tellsClash(x, 0, 0, 2, 5);
    }

    private static void clashOfTheOuterBars() {
        StageLines x = hung(0, 6, 10, 10);
        x.set(0, 2, 3);
        x.set(6, 2, 3);
        tellsClash(x, 7, 7, 0, 6);
        x = hung(8, 9, 10, 10);
        x.set(9, 2, 1);
        tellsClash(x, 7, 7, 8, 9);
    }

    private static void clashOfAnEarlierPair() {
        StageLines x = hung(1, 2, 5, 5);
        x.set(7, 1, 5);
        x.set(8, 1, 5);
        x.set(1, 2, 1);
        x.set(7, 2, 1);
        x.set(2, 0, 40);
        x.set(8, 0, 40);
        // 55, 50, 45 (a mere point), 40: they strike 4 TIMES behind the beginning.
        x.move(1, 10, 40, 5);
        x.move(7, 5, 40, 5);
        tellsClash(x, 0, 9, 7, 8);
        tellsClash(x, 13, 13, 7, 8);
        tellsClash(x, 14, 14, 1, 2);
        tellsClash(x, 15, 15, 1, 2);
    }

    private static void clashRefuses() {
        StageLines x = new StageLines();
        int[] froms = {-1, 301, MIN, MAX};
        for (int from : froms) {
            DUE.due("14 from " + from, x.clash(from, 0), StageLines.OUTSIDE);
        }
        int[] whats = {-1, 3, MIN, MAX};
        for (int what : whats) {
            DUE.due("14 what " + what, x.clash(0, what), StageLines.OUTSIDE);
        }
    }

    private static void oftenCounts() {
        StageLines x = hung(3, 4, 10, 10);
        DUE.due("15 never", x.often(3, 4), 0);
        x.set(4, 2, 1);
        DUE.due("15 always", x.often(3, 4), 301);
        DUE.due("15 always, the other way round", x.often(4, 3), 301);
        // 60, 59 .. 51 strike, 50 is a mere point: ten TIMES from 0 and as many as it begins later.
        x.move(4, 0, 0, 1);
        DUE.due("15 until it is below", x.often(3, 4), 10);
        x.shift(0, 50);
        DUE.due("15 later", x.often(3, 4), 60);
        x.move(4, 200, 60, 5);
        // At 200 it is at 0 by then; 50 is reached at 210, 55 at 211.
        DUE.due("15 and again", x.often(3, 4), 60 + 90);
        x.set(3, 1, 0);
        DUE.due("15 never without DROP", x.often(3, 4), 0);
        DUE.due("15 another pair", x.often(4, 5), 0);
    }

    private static void oftenRefuses() {
        StageLines x = new StageLines();
        int[] bars = {-1, 10, MIN, MAX};
        for (int b : bars) {
            DUE.due("15 no bar", x.often(b, 0), StageLines.UNKNOWN);
            DUE.due("15 no other bar", x.often(0, b), StageLines.UNKNOWN);
            DUE.due("15 no bar twice", x.often(b, b), StageLines.UNKNOWN);
        }
        for (int b = 0; b < 10; b++) {
            DUE.due("15 they are one", x.often(b, b), StageLines.OUTSIDE);
        }
    }
}
