/** Promises 7 to 11, on maps that can be worked out by hand: outcome, length, best, total, longest. */
public final class AnswersTest {
    private static final Due due = new Due();
    private static final int[] NO_PLACES = {-1, 6, 7, -6, 36, 1 << 16, Integer.MIN_VALUE, Integer.MAX_VALUE};

    public static void main(String[] args) {
        refusals();
        positionsOver();
        noMoveIsLost();
        waitingForEver();
        corridorToTheExit();
        loserHoldsOut();
        bestAmongEquals();
        bestWhenNobodyWins();
        otherSides();
        due.end();
    }

    private static void refusals() {
        ChaseTable x = new ChaseTable(0);
        for (int wrong : NO_PLACES) {
            due.is("outcome(" + wrong + ", 0, 0)", x.outcome(wrong, 0, 0, false), -1);
            due.is("outcome(0, " + wrong + ", 0)", x.outcome(0, wrong, 0, true), -1);
            due.is("outcome(0, 0, " + wrong + ")", x.outcome(0, 0, wrong, false), -1);
            due.is("length(" + wrong + ", 0, 0)", x.length(wrong, 0, 0, false), -1);
            due.is("length(0, " + wrong + ", 0)", x.length(0, wrong, 0, true), -1);
            due.is("length(0, 0, " + wrong + ")", x.length(0, 0, wrong, false), -1);
        }
    }

    /** Caught comes before out; it does not matter who is to move. */
    private static void positionsOver() {
        ChaseTable x = new ChaseTable(3);
        x.exit(2, true);
        for (int turn = 0; turn < 2; turn++) {
            boolean thiefMoves = turn == 1;
            due.is("A has him", x.outcome(4, 1, 4, thiefMoves), 1);
            due.is("B has him", x.outcome(1, 4, 4, thiefMoves), 1);
            due.is("both have him", x.outcome(4, 4, 4, thiefMoves), 1);
            due.is("caught on an exit", x.outcome(2, 0, 2, thiefMoves), 1);
            due.is("out", x.outcome(0, 1, 2, thiefMoves), 2);
            due.is("length, caught", x.length(4, 1, 4, thiefMoves), 0);
            due.is("length, caught on an exit", x.length(0, 2, 2, thiefMoves), 0);
            due.is("length, out", x.length(0, 1, 2, thiefMoves), 0);
            x.set(4, 1, 4, thiefMoves);
            due.is("best(), caught", x.best(), -2);
            x.set(0, 1, 2, thiefMoves);
            due.is("best(), out", x.best(), -2);
        }
        due.is("total(GUARDS)", x.total(1), 132);
        due.is("total(THIEF)", x.total(2), 50);
        due.is("total(NOBODY)", x.total(0), 250);
        due.is("longest(GUARDS)", x.longest(1), 0);
        due.is("longest(THIEF)", x.longest(2), 0);
    }

    private static void noMoveIsLost() {
        ChaseTable x = new ChaseTable(0);
        due.is("guards stuck", x.outcome(0, 1, 5, false), 2);
        due.is("guards stuck, length", x.length(0, 1, 5, false), 0);
        due.is("guards stuck, best()", x.best(), -2);
        due.is("thief stuck", x.outcome(0, 1, 5, true), 1);
        due.is("thief stuck, length", x.length(0, 1, 5, true), 0);
        x.set(0, 1, 5, true);
        due.is("thief stuck, best()", x.best(), -2);
        due.is("longest(GUARDS)", x.longest(1), 0);
        due.is("longest(THIEF)", x.longest(2), 0);
        ChaseTable guardsWait = new ChaseTable(1);
        due.is("waiting wins", guardsWait.length(0, 1, 5, false), 1);
        due.is("waiting is best", guardsWait.best(), 12);
        due.is("longest(GUARDS)", guardsWait.longest(1), 1);
        due.is("longest(THIEF)", guardsWait.longest(2), -3);
        ChaseTable thiefWaits = new ChaseTable(2);
        due.is("waiting wins", thiefWaits.length(0, 1, 5, true), 1);
        due.is("longest(THIEF)", thiefWaits.longest(2), 1);
    }

    private static void waitingForEver() {
        ChaseTable x = new ChaseTable(3);
        due.is("outcome", x.outcome(0, 1, 5, false), 0);
        due.is("length", x.length(0, 1, 5, false), -3);
        due.is("outcome, thief", x.outcome(0, 1, 5, true), 0);
        due.is("length, thief", x.length(0, 1, 5, true), -3);
        due.is("best()", x.best(), 12);
        due.is("longest(THIEF)", x.longest(2), -3);
        due.is("longest(GUARDS)", x.longest(1), 0);
    }

    /** The thief walks 5, 4, 3, 2 and is out at 2; guards who can only wait watch him. */
    private static void corridorToTheExit() {
        ChaseTable x = new ChaseTable(3);
        x.door(5, 4, true);
        x.door(4, 3, true);
        x.door(3, 2, true);
        x.exit(2, true);
        int[] steps = {0, 1, 3, 5};
        for (int t = 2; t < 6; t++) {
            due.is("thief to move at " + t, x.length(0, 1, t, true), steps[t - 2]);
            due.is("guards to move, thief at " + t, x.length(0, 1, t, false), t == 2 ? 0 : steps[t - 2] + 1);
            due.is("outcome, thief at " + t, x.outcome(0, 1, t, true), 2);
        }
        due.is("longest(THIEF)", x.longest(2), 6);
        int[] codes = {12, 4, 12, 3, 12, 2};
        for (int code : codes) {
            due.is("best()", x.best(), code);
            due.is("play(" + code + ")", x.play(code), 0);
        }
        due.is("board()", x.board(), 8 + 64 * 2);
        due.is("best() when out", x.best(), -2);
        due.is("a guard in the way", x.outcome(3, 1, 4, true), 0);
        x.set(3, 1, 4, true);
        due.is("he waits then", x.best(), 12);
    }

    /** The thief is caught in the end whichever way he goes; by 5, 4, 3 it takes longer than by 5, 1. */
    private static void loserHoldsOut() {
        ChaseTable x = new ChaseTable(1);
        x.door(5, 1, true);
        x.door(5, 4, true);
        x.door(4, 3, true);
        due.is("stuck at 1", x.length(0, 0, 1, true), 0);
        due.is("guards wait for that", x.length(0, 0, 1, false), 1);
        due.is("stuck at 3", x.length(0, 0, 3, true), 0);
        due.is("thief at 4", x.length(0, 0, 4, true), 2);
        due.is("guards, thief at 4", x.length(0, 0, 4, false), 3);
        due.is("thief at 5: the greatest of 1 and 3, and 1", x.length(0, 0, 5, true), 4);
        due.is("outcome", x.outcome(0, 0, 5, true), 1);
        x.set(0, 0, 5, true);
        due.is("best() holds out", x.best(), 4);
        due.is("longest(GUARDS)", x.longest(1), 5);
        due.is("longest(THIEF)", x.longest(2), -3);
    }

    private static void bestAmongEquals() {
        ChaseTable x = new ChaseTable(3);
        x.door(0, 5, true);
        x.door(1, 5, true);
        x.door(0, 2, true);
        due.is("A catches, not B; code 2 is slower", x.best(), 5);
        x.set(1, 0, 5, false);
        due.is("A catches again", x.best(), 5);
        x.set(3, 1, 5, false);
        due.is("only B can", x.best(), 11);
        due.is("length", x.length(3, 1, 5, false), 1);
    }

    private static void bestWhenNobodyWins() {
        ChaseTable x = new ChaseTable(3);
        x.door(0, 3, true);
        x.door(1, 2, true);
        due.is("the smallest code that keeps the chase open", x.best(), 3);
        x.exit(1, true);
        x.door(5, 1, true);
        due.is("B stays on the exit: A goes", x.outcome(0, 1, 5, false), 0);
        due.is("best()", x.best(), 3);
        due.is("B leaves and loses", x.outcome(0, 2, 5, true), 2);
        x.set(3, 1, 5, false);
        due.is("best() passes over the losing code 8", x.best(), 12);
        x.set(3, 1, 5, true);
        due.is("best() of the thief passes over the caught code 1", x.best(), 12);
    }

    private static void otherSides() {
        int[] others = {-1, 3, 4, -3, Integer.MIN_VALUE, Integer.MAX_VALUE};
        for (int waits = 0; waits < 4; waits++) {
            ChaseTable x = new ChaseTable(waits);
            x.door(5, 4, true);
            x.exit(4, true);
            for (int who : others) {
                due.is("total(" + who + ")", x.total(who), 0);
                due.is("longest(" + who + ")", x.longest(who), -3);
            }
            due.is("longest(NOBODY)", x.longest(0), -3);
            due.is("the three totals", x.total(0) + x.total(1) + x.total(2), 432);
        }
    }
}
