/** Promises 16 and 17: hands, crew; and the hand that told tells. */
public final class HandsTest {
    private static final Due DUE = new Due("HandsTest");
    private static final int MIN = Integer.MIN_VALUE;
    private static final int MAX = Integer.MAX_VALUE;

    public static void main(String[] args) {
        noMove();
        oneHandWalks();
        sameBarNeedsNoWay();
        movesWithoutLength();
        onlyWhatCanBeDone();
        tenHands();
        mostAtOnce();
        firstWayByRisingNumbers();
        leastHandsGoAheadOfLesserHands();
        crewIsAsThingsAre();
        crewIsByTime();
        handsRefuses();
        crewRefuses();
        DUE.close();
    }

    private static void tellsHands(StageLines x, int hands, int doable, int most) {
        DUE.due("16 hands(0)", x.hands(0), hands);
        DUE.due("16 hands(1)", x.hands(1), doable);
        DUE.due("16 hands(2)", x.hands(2), most);
    }

    /** By MOVES, the hand of each. */
    private static void tellsCrew(StageLines x, int... hands) {
        for (int m = 0; m < hands.length; m++) {
            DUE.due("16 told(" + m + ", 8)", x.told(m, 8), hands[m]);
        }
    }

    /** What a hand does, in order, and nothing behind it. */
    private static void tellsTurns(StageLines x, int hand, int... moves) {
        for (int k = 0; k < moves.length; k++) {
            DUE.due("17 crew(" + hand + ", " + k + ")", x.crew(hand, k), moves[k]);
        }
        int[] none = {moves.length, 10, -1, MIN, MAX};
        for (int k : none) {
            DUE.due("17 crew(" + hand + ", " + k + ")", x.crew(hand, k), StageLines.NONE);
        }
    }

    private static void noMove() {
        StageLines x = new StageLines();
        tellsHands(x, 0, 0, 0);
        for (int h = 0; h < 10; h++) {
            tellsTurns(x, h);
        }
    }

    private static void oneHandWalks() {
        StageLines x = new StageLines();
        // From 10 to 12 on bar 2, then on bar 7 at 17 at the earliest.
        x.move(2, 10, 50, 5);
        x.move(7, 17, 50, 5);
        tellsHands(x, 1, 2, 1);
        tellsCrew(x, 0, 0);
        tellsTurns(x, 0, 0, 1);
        x.shift(1, -1);
        tellsHands(x, 2, 2, 1);
        tellsCrew(x, 0, 1);
        tellsTurns(x, 0, 0);
        tellsTurns(x, 1, 1);
        // The other one first: from 3 to 5, the way is 5.
        x.shift(1, -13);
        tellsHands(x, 1, 2, 1);
        tellsTurns(x, 0, 1, 0);
        x.shift(1, 1);
        tellsHands(x, 2, 2, 1);
    }

    private static void sameBarNeedsNoWay() {
        StageLines x = new StageLines();
        x.move(4, 0, 0, 1);
        x.move(4, 5, 60, 1);
        x.move(4, 7, 0, 5);
        // CUT ones END as the next one begins.
        tellsHands(x, 1, 3, 1);
        tellsTurns(x, 0, 0, 1, 2);
    }

    private static void movesWithoutLength() {
        StageLines x = new StageLines();
        x.move(0, 10, 60, 1);
        tellsHands(x, 1, 1, 0);
        tellsCrew(x, 0);
        x.move(1, 10, 60, 1);
        // Neither is at the other's bar in time.
        tellsHands(x, 2, 2, 0);
        x.shift(1, 1);
        tellsHands(x, 1, 2, 0);
    }

    private static void onlyWhatCanBeDone() {
        StageLines x = new StageLines();
        x.move(0, 0, 0, 1);
        x.move(1, 0, 0, 1);
        x.move(2, 0, 0, 1);
        tellsHands(x, 3, 3, 3);
        x.load(1, 0, 21);
        tellsHands(x, 2, 2, 2);
        tellsCrew(x, 0, StageLines.NONE, 1);
        tellsTurns(x, 0, 0);
        tellsTurns(x, 1, 2);
        tellsTurns(x, 2);
        x.set(0, 3, 21);
        tellsHands(x, 3, 3, 3);
        x.set(0, 3, 20);
        x.load(0, 1, 50);
        x.load(2, 0, 50);
        tellsHands(x, 0, 0, 0);
        tellsCrew(x, StageLines.NONE, StageLines.NONE, StageLines.NONE);
        tellsTurns(x, 0);
    }

    private static void tenHands() {
        StageLines x = new StageLines();
        for (int b = 0; b < 10; b++) {
            x.move(9 - b, 100, 0, 1);
        }
        tellsHands(x, 10, 10, 10);
        for (int h = 0; h < 10; h++) {
            DUE.due("16 told(" + h + ", 8)", x.told(h, 8), h);
            tellsTurns(x, h, h);
        }
    }

    private static void mostAtOnce() {
        StageLines x = new StageLines();
        x.move(0, 0, 50, 1);
        x.move(1, 10, 50, 1);
        // The first ENDS at 10, just as the second begins; only the way makes two hands of it.
        tellsHands(x, 2, 2, 1);
        x.shift(1, -1);
        tellsHands(x, 2, 2, 2);
        x.move(2, 9, 60, 1);
        // Without length it is never under way.
        tellsHands(x, 3, 3, 2);
        x.load(0, 0, 30);
        tellsHands(x, 2, 2, 1);
        StageLines y = new StageLines();
        y.move(2, 20, 0, 5);
        y.move(1, 10, 0, 1);
        y.move(0, 0, 0, 1);
        // All three only from 20 on, as the MOVE of the least number begins.
        tellsHands(y, 3, 3, 3);
    }

    private static void firstWayByRisingNumbers() {
        StageLines x = new StageLines();
        x.move(4, 6, 50, 5);
        x.move(0, 0, 50, 5);
        x.move(9, 11, 50, 5);
        x.move(5, 9, 50, 5);
        x.move(4, 0, 60, 1);
        // 1 (0 to 2) and 4 (0 to 0) are far apart; 0 (6 to 8) does not reach 2, 3 (9 to 11) neither.
        tellsHands(x, 2, 5, 1);
        tellsCrew(x, 0, 0, 1, 0, 1);
        tellsTurns(x, 0, 1, 0, 3);
        tellsTurns(x, 1, 4, 2);
    }

    private static void leastHandsGoAheadOfLesserHands() {
        StageLines x = new StageLines();
        x.move(0, 0, 50, 5);
        x.move(5, 10, 50, 5);
        x.move(9, 0, 50, 5);
        x.move(0, 5, 40, 5);
        // 0 reaches 1 and 3, 2 reaches 1 only: 0 and 1 by one hand would leave 2 and 3 to two more.
        tellsHands(x, 2, 4, 2);
        tellsCrew(x, 0, 1, 1, 0);
        tellsTurns(x, 0, 0, 3);
        tellsTurns(x, 1, 2, 1);
        tellsTurns(x, 2);
        x.drop(3);
        tellsHands(x, 2, 3, 2);
        tellsCrew(x, 0, 0, 1);
    }

    /** Each is the first call behind a change. */
    private static void crewIsAsThingsAre() {
        StageLines x = new StageLines();
        x.move(0, 10, 0, 1);
        x.move(1, 10, 0, 1);
        DUE.due("17 crew(1, 0)", x.crew(1, 0), 1);
        x.shift(1, 100);
        DUE.due("17 crew(0, 1) behind shift", x.crew(0, 1), 1);
        x.drop(0);
        DUE.due("17 crew(0, 1) behind drop", x.crew(0, 1), StageLines.NONE);
        DUE.due("11 told(0, 8) behind drop", x.told(0, 8), 0);
        x.load(1, 1, 21);
        DUE.due("11 told(0, 8) behind load", x.told(0, 8), StageLines.NONE);
        x.take(1, 1, 0);
        DUE.due("17 crew(0, 0) behind take", x.crew(0, 0), 0);
    }

    private static void crewIsByTime() {
        StageLines x = new StageLines();
        x.move(3, 150, 0, 5);
        x.move(3, 100, 10, 5);
        x.move(3, 50, 20, 5);
        x.move(3, 0, 30, 5);
        tellsHands(x, 1, 4, 1);
        tellsTurns(x, 0, 3, 2, 1, 0);
        tellsTurns(x, 1);
        tellsTurns(x, 9);
    }

    private static void handsRefuses() {
        StageLines x = new StageLines();
        int[] whats = {-1, 3, MIN, MAX};
        for (int what : whats) {
            DUE.due("16 hands(" + what + ")", x.hands(what), StageLines.OUTSIDE);
        }
    }

    private static void crewRefuses() {
        StageLines x = new StageLines();
        x.move(0, 0, 0, 1);
        int[] hands = {-1, 10, -6, MIN, MAX};
        for (int h : hands) {
            DUE.due("17 crew(" + h + ", 0)", x.crew(h, 0), StageLines.OUTSIDE);
            DUE.due("17 crew(" + h + ", -1)", x.crew(h, -1), StageLines.OUTSIDE);
        }
    }
}
