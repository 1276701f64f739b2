/** What the document says under "Terms" of OUTCOME, LENGTH and THE BEST MOVE, on maps worked out by hand. */
public final class OutcomeTest {
    private static final Due due = new Due();

    public static void main(String[] args) {
        noMoveIsLost();
        overBeforeNoMove();
        lengthZero();
        thiefWinsByTheLeast();
        guardsWinByTheLeast();
        thiefHoldsOut();
        guardsHoldOut();
        oneOpenMoveIsEnough();
        finitelyMany();
        noOutcomeFollows();
        bestIsOneLess();
        bestAmongEquals();
        bestOfTheLoser();
        bestWhenNobodyWins();
        due.end();
    }

    private static void is(ChaseTable x, int a, int b, int t, boolean thiefMoves, int winner, int length) {
        String position = "(" + a + ", " + b + ", " + t + ", " + thiefMoves + ")";
        due.is("outcome" + position, x.outcome(a, b, t, thiefMoves), winner);
        due.is("length" + position, x.length(a, b, t, thiefMoves), length);
    }

    private static void best(ChaseTable x, int a, int b, int t, boolean thiefMoves, int code) {
        x.set(a, b, t, thiefMoves);
        due.is("best() at (" + a + ", " + b + ", " + t + ", " + thiefMoves + ")", x.best(), code);
    }

    private static void noMoveIsLost() {
        due.sentence("Terms", "A position that is not over and has no move is lost for the side to move, in 0 moves.");
        ChaseTable none = new ChaseTable(0);
        is(none, 0, 1, 5, false, 2, 0);
        is(none, 0, 1, 5, true, 1, 0);
        ChaseTable guardsWait = new ChaseTable(1);
        is(guardsWait, 0, 1, 5, true, 1, 0);
        is(guardsWait, 0, 1, 5, false, 1, 1);
        ChaseTable thiefWaits = new ChaseTable(2);
        is(thiefWaits, 0, 1, 5, false, 2, 0);
        is(thiefWaits, 0, 1, 5, true, 2, 1);
        ChaseTable oneDoor = Edges.map(0, "12", "");
        is(oneDoor, 1, 0, 5, false, 1, 1);
        is(oneDoor, 0, 1, 5, false, 1, 1);
        is(oneDoor, 2, 0, 5, false, 2, 0);
        is(oneDoor, 0, 0, 1, true, 2, 1);
    }

    private static void overBeforeNoMove() {
        due.sentence("Terms", "A position that is not over and has no move is lost for the side to move", "it is over");
        ChaseTable x = Edges.map(0, "", "5");
        is(x, 3, 1, 3, false, 1, 0);
        is(x, 3, 1, 3, true, 1, 0);
        is(x, 0, 1, 5, false, 2, 0);
        is(x, 0, 1, 5, true, 2, 0);
        is(x, 0, 5, 5, false, 1, 0);
    }

    private static void lengthZero() {
        due.sentence("Terms", "a position that is over, or has no move, has length 0 and is won as said.");
        ChaseTable x = new ChaseTable(0);
        for (int p = 0; p < 432; p++) {
            due.is("length of position " + p, x.length(p / 72, p / 12 % 6, p / 2 % 6, p % 2 == 1), 0);
        }
        ChaseTable full = Edges.allDoors(3, "0 1 2 3 4 5");
        for (int p = 0; p < 432; p++) {
            due.is("length of position " + p, full.length(p / 72, p / 12 % 6, p / 2 % 6, p % 2 == 1), 0);
        }
    }

    private static void thiefWinsByTheLeast() {
        due.sentence("Terms", "the length is then 1 and the least length among such positions.", "the thief");
        ChaseTable x = Edges.map(1, "54 43 32 52", "2");
        is(x, 0, 1, 2, true, 2, 0);
        is(x, 0, 1, 3, true, 2, 1);
        is(x, 0, 1, 4, true, 2, 3);
        is(x, 0, 1, 5, true, 2, 1);
        is(x, 0, 1, 5, false, 2, 2);
        x.door(5, 2, false);
        is(x, 0, 1, 5, true, 2, 5);
        is(x, 0, 1, 5, false, 2, 6);
        due.is("longest(THIEF)", x.longest(2), 6);
        int[] codes = {12, 4, 12, 3, 12, 2};
        for (int code : codes) {
            due.is("best()", x.best(), code);
            due.is("play(" + code + ")", x.play(code), 0);
        }
        due.is("board()", x.board(), Edges.board(0, 1, 2, false));
    }

    private static void guardsWinByTheLeast() {
        due.sentence("Terms", "the length is then 1 and the least length among such positions.", "the guards");
        ChaseTable x = Edges.map(3, "01 15 05", "");
        is(x, 0, 2, 5, false, 1, 1);
        is(x, 2, 0, 5, false, 1, 1);
        is(x, 0, 2, 5, true, 1, 2);
        x.door(0, 5, false);
        is(x, 0, 2, 5, false, 1, 3);
        is(x, 2, 0, 5, false, 1, 3);
        is(x, 0, 1, 5, false, 1, 1);
        is(x, 0, 2, 5, true, 1, 4);
    }

    /** The thief is caught in the end whichever way he goes; by 5, 4, 3 it takes longer than by 5, 1. */
    private static void thiefHoldsOut() {
        due.sentence("Terms", "the length is 1 and the greatest length among them.", "the thief loses");
        ChaseTable x = Edges.map(1, "51 54 43", "");
        is(x, 0, 0, 1, true, 1, 0);
        is(x, 0, 0, 1, false, 1, 1);
        is(x, 0, 0, 4, true, 1, 2);
        is(x, 0, 0, 4, false, 1, 3);
        is(x, 0, 0, 5, true, 1, 4);
        best(x, 0, 0, 5, true, 4);
        due.is("longest(GUARDS)", x.longest(1), 5);
        due.is("longest(THIEF)", x.longest(2), -3);
    }

    /** The guards must go and run out of doors, while the thief waits; by 0, 2, 3 it takes longer than by 0, 1. */
    private static void guardsHoldOut() {
        due.sentence("Terms", "the length is 1 and the greatest length among them.", "the guards lose");
        ChaseTable x = Edges.map(2, "01 02 23", "");
        is(x, 1, 4, 5, false, 2, 0);
        is(x, 1, 4, 5, true, 2, 1);
        is(x, 2, 4, 5, false, 2, 2);
        is(x, 2, 4, 5, true, 2, 3);
        is(x, 0, 4, 5, false, 2, 4);
        best(x, 0, 4, 5, false, 2);
        best(x, 4, 0, 5, false, 6 + 2);
        is(x, 0, 0, 5, false, 2, 8);
        is(x, 0, 0, 5, true, 2, 9);
        due.is("longest(THIEF)", x.longest(2), 9);
    }

    /** B on the exit keeps the thief in; the side to move loses only if every move loses. */
    private static void oneOpenMoveIsEnough() {
        due.sentence("Terms", "Else, if every move leads to a position that the other side wins, the other side wins");
        ChaseTable x = Edges.map(3, "51 12", "1");
        is(x, 3, 2, 5, true, 2, 1);
        is(x, 3, 2, 5, false, 2, 2);
        is(x, 3, 1, 5, false, 0, -3);
        is(x, 3, 1, 5, true, 0, -3);
        ChaseTable mustGo = Edges.map(2, "51 12", "1");
        is(mustGo, 3, 1, 5, false, 2, 2);
        is(mustGo, 3, 1, 5, true, 2, 3);
    }

    /** The guards can never catch him and he can never get out: being safe is not winning. */
    private static void finitelyMany() {
        due.sentence("Terms", "Both hold only for what follows from the positions of length 0 in finitely many moves");
        ChaseTable x = Edges.map(0, "01 10 45 54", "");
        is(x, 0, 1, 5, false, 0, -3);
        is(x, 0, 1, 5, true, 0, -3);
        is(x, 0, 0, 4, true, 0, -3);
        is(x, 2, 3, 5, false, 2, 0);
        is(x, 0, 1, 2, true, 1, 0);
        is(x, 0, 1, 2, false, 1, 1);
    }

    private static void noOutcomeFollows() {
        due.sentence("Terms",
            "a position for which no outcome follows is won by NOBODY (the chase can go on for ever)"
                + " and has no length.");
        ChaseTable x = new ChaseTable(3);
        for (int p = 0; p < 432; p++) {
            int a = p / 72;
            int b = p / 12 % 6;
            int t = p / 2 % 6;
            if (t != a && t != b) due.is("length of position " + p, x.length(a, b, t, p % 2 == 1), -3);
        }
        due.is("outcome(0, 1, 5, false)", x.outcome(0, 1, 5, false), 0);
        due.is("outcome(0, 1, 5, true)", x.outcome(0, 1, 5, true), 0);
    }

    private static void bestIsOneLess() {
        due.sentence("Terms", "if somebody wins, to a position whose length is one less");
        ChaseTable x = Edges.map(3, "01 15 05", "");
        best(x, 0, 2, 5, false, 5);
        x.door(0, 5, false);
        best(x, 0, 2, 5, false, 1);
        best(x, 2, 0, 5, false, 6 + 1);
        ChaseTable thief = Edges.map(1, "51 13 53", "3");
        best(thief, 0, 4, 5, true, 3);
        is(thief, 0, 4, 5, true, 2, 1);
        is(thief, 0, 4, 1, true, 2, 1);
    }

    private static void bestAmongEquals() {
        due.sentence("Terms", "the one with the smallest code.");
        ChaseTable x = Edges.map(3, "05 15 30 10 20", "");
        best(x, 0, 1, 5, false, 5);
        best(x, 1, 0, 5, false, 5);
        best(x, 4, 1, 5, false, 11);
        best(x, 1, 2, 0, false, 0);
        best(x, 4, 2, 0, false, 6);
        ChaseTable exits = Edges.map(3, "50 53 54", "0 3 4");
        best(exits, 1, 2, 5, true, 0);
        best(exits, 0, 2, 5, true, 3);
        best(exits, 0, 3, 5, true, 4);
    }

    private static void bestOfTheLoser() {
        due.sentence("Terms", "among the moves that lead to the outcome", "the side to move loses");
        ChaseTable thief = Edges.map(1, "53 54", "");
        best(thief, 0, 1, 5, true, 3);
        best(thief, 3, 1, 5, true, 4);
        best(thief, 3, 4, 5, true, 3);
        ChaseTable waiting = Edges.map(3, "05", "");
        best(waiting, 0, 1, 5, true, 12);
        ChaseTable guards = Edges.map(3, "54", "4");
        best(guards, 0, 1, 5, false, 12);
        guards.door(0, 3, true);
        best(guards, 0, 1, 5, false, 3);
        guards.door(1, 0, true);
        guards.door(0, 3, false);
        best(guards, 2, 1, 5, false, 6);
    }

    private static void bestWhenNobodyWins() {
        due.sentence("Terms", "(If nobody wins: the smallest code among the moves to positions that nobody wins.)");
        ChaseTable x = Edges.map(3, "05 10", "");
        best(x, 0, 1, 2, false, 5);
        best(x, 3, 1, 2, false, 6);
        best(x, 3, 4, 2, false, 12);
        best(x, 1, 0, 2, false, 0);
        best(x, 3, 4, 1, true, 0);
        ChaseTable keeper = Edges.map(3, "12 51", "1");
        best(keeper, 3, 1, 5, false, 12);
        best(keeper, 3, 1, 5, true, 12);
        best(keeper, 1, 1, 5, false, 2);
        keeper.door(3, 4, true);
        best(keeper, 3, 1, 5, false, 4);
    }
}
