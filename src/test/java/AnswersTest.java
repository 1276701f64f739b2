/** Promises 7 to 11: outcome, length, best, total, longest. Each sentence has its own test. */
public final class AnswersTest {
    private static final Due due = new Due();

    /** Maps whose chases are the longest that a search found: side, waits, length, doors, exits. */
    private static final String[][] LONG_CHASES = {
        {"1", "0", "26", "01 03 04 05 14 15 24 30 34 41 42 51 52 53", "2 4"},
        {"1", "1", "17", "02 10 14 15 20 25 34 41 43 53", "5"},
        {"1", "2", "28", "04 13 23 24 30 31 41 45 50 52", "1 3"},
        {"1", "3", "28", "01 12 13 20 25 34 40 43 51 54", "3 4"},
        {"2", "0", "24", "01 02 14 25 32 35 40 43 52", "2 5"},
        {"2", "1", "14", "02 04 15 20 25 40 41 43 53", "1 3 5"},
        {"2", "2", "26", "01 03 04 15 20 23 25 31 32 34 40 41 45 54", "1 5"},
        {"2", "3", "14", "01 04 05 10 13 25 31 32 42", "2 4 5"}};

    public static void main(String[] args) {
        outcomeTellsWho();
        outcomeRefusesPlaces();
        lengthOrForever();
        longLengths();
        lengthRefusesPlaces();
        askingIsNotAboutTheBoard();
        bestOnTheBoard();
        bestWhenOver();
        bestWithoutMove();
        bestLeadsToTheEnd();
        totalOfAll();
        totalOfOthers();
        longestGreatest();
        longestWithoutWins();
        longestOfOthers();
        due.end();
    }

    /** On this map the thief is out by 5, 4 unless a guard stands on 4; nobody can leave another place. */
    private static ChaseTable oneWayOut() {
        return Edges.map(3, "54", "4");
    }

    private static void outcomeTellsWho() {
        due.sentence("Promise 7", "Who wins the position: NOBODY, GUARDS or THIEF.");
        ChaseTable x = oneWayOut();
        due.is("outcome(0, 1, 5, true)", x.outcome(0, 1, 5, true), ChaseTable.THIEF);
        due.is("outcome(0, 1, 5, false)", x.outcome(0, 1, 5, false), ChaseTable.THIEF);
        due.is("outcome(0, 4, 5, true)", x.outcome(0, 4, 5, true), ChaseTable.NOBODY);
        due.is("outcome(0, 1, 3, false)", x.outcome(0, 1, 3, false), ChaseTable.NOBODY);
        due.is("outcome(0, 4, 4, true)", x.outcome(0, 4, 4, true), ChaseTable.GUARDS);
        due.is("outcome(0, 0, 0, false), the first", x.outcome(0, 0, 0, false), ChaseTable.GUARDS);
        due.is("outcome(5, 5, 5, true), the last", x.outcome(5, 5, 5, true), ChaseTable.GUARDS);
    }

    private static void outcomeRefusesPlaces() {
        due.sentence("Promise 7", "One of a, b, t not in 0 to 5: BAD_PLACE.");
        for (int kind = 0; kind < 3; kind++) {
            ChaseTable x = Edges.sample(kind);
            for (int wrong : Edges.NO_PLACES) {
                due.is("outcome(" + wrong + ", 0, 5, false)", x.outcome(wrong, 0, 5, false), -1);
                due.is("outcome(5, " + wrong + ", 0, true)", x.outcome(5, wrong, 0, true), -1);
                due.is("outcome(0, 5, " + wrong + ", false)", x.outcome(0, 5, wrong, false), -1);
                due.is("outcome(" + wrong + " twice, 1, true)", x.outcome(wrong, wrong, 1, true), -1);
                due.is("outcome(" + wrong + " thrice, true)", x.outcome(wrong, wrong, wrong, true), -1);
            }
            due.is("outcome(6, -1, 0, false)", x.outcome(6, -1, 0, false), -1);
            due.is("outcome(0, -6, 1, true)", x.outcome(0, -6, 1, true), -1);
        }
    }

    private static void lengthOrForever() {
        due.sentence("Promise 8", "The position's length; FOREVER if nobody wins it.");
        ChaseTable x = oneWayOut();
        due.is("length(0, 1, 5, true)", x.length(0, 1, 5, true), 1);
        due.is("length(0, 1, 5, false)", x.length(0, 1, 5, false), 2);
        due.is("length(0, 1, 4, false)", x.length(0, 1, 4, false), 0);
        due.is("length(0, 4, 5, true)", x.length(0, 4, 5, true), ChaseTable.FOREVER);
        due.is("length(0, 1, 3, false)", x.length(0, 1, 3, false), ChaseTable.FOREVER);
        due.is("length(0, 0, 0, false), the first", x.length(0, 0, 0, false), 0);
        due.is("length(5, 5, 5, true), the last", x.length(5, 5, 5, true), 0);
    }

    private static void longLengths() {
        due.sentence("Promise 8", "The position's length", "the longest found");
        for (String[] row : LONG_CHASES) {
            ChaseTable x = Edges.map(Integer.parseInt(row[1]), row[3], row[4]);
            Model model = new Model(Integer.parseInt(row[1]));
            for (String door : row[3].split(" ")) model.door(door.charAt(0) - '0', door.charAt(1) - '0', true);
            for (String place : row[4].split(" ")) model.exit(place.charAt(0) - '0', true);
            for (int p = 0; p < 432; p++) {
                int a = p / 72;
                int b = p / 12 % 6;
                int t = p / 2 % 6;
                String call = "map " + row[3] + " | " + row[4] + ", length of " + a + b + t + p % 2;
                due.is(call, x.length(a, b, t, p % 2 == 1), model.length(a, b, t, p % 2 == 1));
            }
        }
    }

    private static void lengthRefusesPlaces() {
        due.sentence("Promise 8", "One of a, b, t not in 0 to 5: BAD_PLACE.");
        for (int kind = 0; kind < 3; kind++) {
            ChaseTable x = Edges.sample(kind);
            for (int wrong : Edges.NO_PLACES) {
                due.is("length(" + wrong + ", 0, 5, true)", x.length(wrong, 0, 5, true), -1);
                due.is("length(5, " + wrong + ", 0, false)", x.length(5, wrong, 0, false), -1);
                due.is("length(0, 5, " + wrong + ", true)", x.length(0, 5, wrong, true), -1);
                due.is("length(" + wrong + " twice, 1, false)", x.length(wrong, wrong, 1, false), -1);
                due.is("length(" + wrong + " thrice, false)", x.length(wrong, wrong, wrong, false), -1);
            }
            due.is("length(6, -1, 0, false)", x.length(6, -1, 0, false), -1);
            due.is("length(0, -6, 1, true)", x.length(0, -6, 1, true), -1);
        }
    }

    private static void askingIsNotAboutTheBoard() {
        due.sentence("Promise 7", "Who wins the position", "not the board");
        ChaseTable x = oneWayOut();
        for (int p = 0; p < 216; p++) {
            x.set(p / 36, p / 6 % 6, p % 6, p % 2 == 1);
            due.is("outcome(0, 1, 5, false) when the board has " + p, x.outcome(0, 1, 5, false), 2);
        }
    }

    private static void bestOnTheBoard() {
        due.sentence("Promise 9", "The code of the best move in the chase on the board");
        ChaseTable x = oneWayOut();
        due.is("the guards can only wait", x.best(), 12);
        x.play(12);
        due.is("the thief leaves", x.best(), 4);
        x.set(0, 4, 5, true);
        due.is("the thief waits", x.best(), 12);
        ChaseTable full = Edges.allDoors(3, "");
        for (int t = 0; t < 6; t++) {
            int guard = t == 0 ? 1 : 0;
            full.set(guard, 5 - guard == t ? guard : 5 - guard, t, false);
            due.is("A catches at " + t, full.best(), t);
            full.set(guard, guard, t, true);
            int free = 0;
            while (free == guard || free == t) free++;
            due.is("the thief runs from " + t, full.best(), free);
        }
    }

    private static void bestWhenOver() {
        due.sentence("Promise 9", "BAD_MOVE if its position is over or has no move.", "over");
        ChaseTable x = Edges.allDoors(3, "5");
        for (int turn = 0; turn < 2; turn++) {
            x.set(4, 1, 4, turn == 1);
            due.is("A has him", x.best(), -2);
            x.set(1, 4, 4, turn == 1);
            due.is("B has him", x.best(), -2);
            x.set(0, 0, 0, turn == 1);
            due.is("all on 0", x.best(), -2);
            x.set(0, 1, 5, turn == 1);
            due.is("he is out", x.best(), -2);
            x.set(5, 1, 5, turn == 1);
            due.is("caught on an exit", x.best(), -2);
        }
        ChaseTable full = Edges.allDoors(3, "0 1 2 3 4 5");
        for (int p = 0; p < 216; p++) {
            full.set(p / 36, p / 6 % 6, p % 6, p % 2 == 1);
            due.is("best() among exits only", full.best(), -2);
        }
    }

    private static void bestWithoutMove() {
        due.sentence("Promise 9", "BAD_MOVE if its position is over or has no move.", "no move");
        ChaseTable x = new ChaseTable(0);
        due.is("new object, guards", x.best(), -2);
        x.set(0, 1, 5, true);
        due.is("new object, thief", x.best(), -2);
        ChaseTable guardsWait = new ChaseTable(1);
        due.is("the guards have one", guardsWait.best(), 12);
        guardsWait.set(0, 1, 5, true);
        due.is("the thief has none", guardsWait.best(), -2);
        ChaseTable thiefWaits = new ChaseTable(2);
        due.is("the guards have none", thiefWaits.best(), -2);
        thiefWaits.set(0, 1, 5, true);
        due.is("the thief has one", thiefWaits.best(), 12);
        ChaseTable shut = Edges.map(0, "02", "");
        due.is("A has a door", shut.best(), 2);
        shut.door(0, 2, false);
        due.is("and then it is shut", shut.best(), -2);
    }

    /** Best moves alone must end every chase that somebody wins, in as many moves as its length says. */
    private static void bestLeadsToTheEnd() {
        due.sentence("Promise 9", "The code of the best move in the chase on the board", "played to the end");
        for (String[] row : LONG_CHASES) {
            int who = Integer.parseInt(row[0]);
            int length = Integer.parseInt(row[2]);
            int p = longestPosition(row, who, length);
            due.isTrue("a position of length " + length + " on " + row[3], p < 432);
            ChaseTable x = Edges.map(Integer.parseInt(row[1]), row[3], row[4]);
            x.set(p / 72 % 6, p / 12 % 6, p / 2 % 6, p % 2 == 1);
            for (int left = length; left > 0; left--) {
                int board = x.board();
                due.is("length", x.length(board % 8, board / 8 % 8, board / 64 % 8, board >= 512), left);
                due.is("outcome", x.outcome(board % 8, board / 8 % 8, board / 64 % 8, board >= 512), who);
                due.is("play(best())", x.play(x.best()), 0);
            }
            due.is("best() at the end", x.best(), -2);
        }
    }

    private static int longestPosition(String[] row, int who, int length) {
        ChaseTable x = Edges.map(Integer.parseInt(row[1]), row[3], row[4]);
        ChaseTable twin = Edges.map(Integer.parseInt(row[1]), row[3], row[4]);
        for (int p = 0; p < 432; p++) {
            int got = x.length(p / 72, p / 12 % 6, p / 2 % 6, p % 2 == 1);
            if (got == length && twin.outcome(p / 72, p / 12 % 6, p / 2 % 6, p % 2 == 1) == who) return p;
        }
        return 432;
    }

    private static void totalOfAll() {
        due.sentence("Promise 10", "How many of the 432 positions (6 * 6 * 6 * 2) this side wins");
        due.is("all", new ChaseTable(1).total(1), 432);
        due.is("none", new ChaseTable(1).total(2), 0);
        due.is("none", new ChaseTable(1).total(0), 0);
        due.is("all that are not over", new ChaseTable(3).total(0), 300);
        due.is("all that are not over", new ChaseTable(2).total(2), 300);
        due.is("those that are over", new ChaseTable(2).total(1), 132);
        ChaseTable x = oneWayOut();
        // Out: 25 pairs of guards off 4, by either turn. At 5: 16 pairs off 4 and 5, by either turn.
        due.is("total(THIEF)", x.total(2), 50 + 32);
        due.is("total(GUARDS)", x.total(1), 132);
        due.is("total(NOBODY)", x.total(0), 432 - 82 - 132);
    }

    private static void totalOfOthers() {
        due.sentence("Promise 10", "0 for any other who.");
        for (int kind = 0; kind < 3; kind++) {
            ChaseTable x = Edges.sample(kind);
            for (int who : Edges.NO_SIDES) due.is("total(" + who + ")", x.total(who), 0);
        }
        ChaseTable open = new ChaseTable(3);
        for (int who : Edges.NO_SIDES) due.is("total(" + who + ")", open.total(who), 0);
    }

    private static void longestGreatest() {
        due.sentence("Promise 11", "The greatest length among the positions that this side wins");
        due.is("only positions that are over", new ChaseTable(3).longest(1), 0);
        due.is("only positions without a move", new ChaseTable(0).longest(2), 0);
        due.is("the guards wait once", new ChaseTable(1).longest(1), 1);
        due.is("the thief waits once", new ChaseTable(2).longest(2), 1);
        due.is("one way out, longest(THIEF)", oneWayOut().longest(2), 2);
        due.is("one way out, longest(GUARDS)", oneWayOut().longest(1), 0);
        for (String[] row : LONG_CHASES) {
            ChaseTable x = Edges.map(Integer.parseInt(row[1]), row[3], row[4]);
            due.is("map " + row[3], x.longest(Integer.parseInt(row[0])), Integer.parseInt(row[2]));
        }
    }

    private static void longestWithoutWins() {
        due.sentence("Promise 11", "FOREVER if it wins none, or who is neither GUARDS nor THIEF.", "none");
        due.is("waits 1, longest(THIEF)", new ChaseTable(1).longest(2), -3);
        due.is("waits 3, longest(THIEF)", new ChaseTable(3).longest(2), -3);
        due.is("all doors, longest(THIEF)", Edges.allDoors(0, "").longest(2), -3);
        ChaseTable x = oneWayOut();
        x.exit(4, false);
        due.is("the exit taken back, longest(THIEF)", x.longest(2), -3);
    }

    private static void longestOfOthers() {
        due.sentence("Promise 11", "FOREVER if it wins none, or who is neither GUARDS nor THIEF.", "who");
        for (int kind = 0; kind < 3; kind++) {
            ChaseTable x = Edges.sample(kind);
            due.is("longest(NOBODY)", x.longest(0), -3);
            for (int who : Edges.NO_SIDES) due.is("longest(" + who + ")", x.longest(who), -3);
        }
        due.is("longest(NOBODY) when nobody wins 300", new ChaseTable(3).longest(0), -3);
    }
}
