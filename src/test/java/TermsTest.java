/** What the document says under "What it is" and of the moves under "Terms": each sentence has its own test. */
public final class TermsTest {
    private static final Due due = new Due();

    public static void main(String[] args) {
        lastCallAfterDoors();
        lastCallAfterOthers();
        sixPlaces();
        oneWayDoors();
        severalOnOnePlace();
        sidesMoveInTurn();
        caught();
        out();
        guardAGoes();
        guardBGoes();
        guardsWait();
        thiefGoes();
        thiefWaits();
        otherSideIsToMove();
        due.end();
    }

    /** 511 calls of door; the last of them opens it. */
    private static ChaseTable afterDoors() {
        ChaseTable x = new ChaseTable(3);
        for (int call = 1; call <= 511; call++) x.door(0, 5, call % 2 == 1);
        return x;
    }

    private static void lastCallAfterDoors() {
        due.sentence("What it is", "An object is used for at most 512 calls after it has been made", "doors");
        due.is("call 512, door(0, 5, false)", afterDoors().door(0, 5, false), 1);
        due.is("call 512, door(0, 6, true)", afterDoors().door(0, 6, true), -1);
        due.is("call 512, exit(5, true)", afterDoors().exit(5, true), 0);
        due.is("call 512, set(5, 5, 5, true)", afterDoors().set(5, 5, 5, true), 0);
        due.is("call 512, play(5)", afterDoors().play(5), 0);
        due.is("call 512, play(4)", afterDoors().play(4), -2);
        due.is("call 512, board()", afterDoors().board(), Edges.board(0, 1, 5, false));
        due.is("call 512, outcome(0, 1, 5, false)", afterDoors().outcome(0, 1, 5, false), 1);
        due.is("call 512, length(0, 1, 5, false)", afterDoors().length(0, 1, 5, false), 1);
        due.is("call 512, best()", afterDoors().best(), 5);
        // Beside the 132 that are over: a guard on 0, the other anywhere but on 5, and the thief on 5, by either turn.
        due.is("call 512, total(GUARDS)", afterDoors().total(1), 132 + 9 * 2);
        due.is("call 512, longest(GUARDS)", afterDoors().longest(1), 2);
    }

    private static void lastCallAfterOthers() {
        due.sentence("What it is", "An object is used for at most 512 calls after it has been made", "other calls");
        ChaseTable playing = new ChaseTable(3);
        for (int call = 1; call <= 510; call++) due.is("play(12), call " + call, playing.play(12), 0);
        due.is("play(12), call 511", playing.play(12), 0);
        due.is("board(), call 512", playing.board(), Edges.board(0, 1, 5, true));
        ChaseTable setting = new ChaseTable(0);
        for (int call = 1; call <= 511; call++) setting.set(call % 6, call / 6 % 6, call / 36 % 6, call % 2 == 0);
        due.is("board(), call 512", setting.board(), Edges.board(511 % 6, 511 / 6 % 6, 511 / 36 % 6, false));
        ChaseTable leaving = new ChaseTable(3);
        for (int call = 1; call <= 511; call++) leaving.exit(5, call % 2 == 1);
        due.is("exit(5, true), call 512", leaving.exit(5, true), 1);
        ChaseTable refusing = new ChaseTable(3);
        for (int call = 1; call <= 511; call++) due.is("door(6, 6), call " + call, refusing.door(6, 6, true), -1);
        due.is("total(NOBODY), call 512", refusing.total(0), 300);
        ChaseTable asking = new ChaseTable(3);
        for (int call = 1; call <= 511; call++) due.is("best(), call " + call, asking.best(), 12);
        due.is("best(), call 512", asking.best(), 12);
    }

    private static void sixPlaces() {
        due.sentence("Terms", "The map has six places (0 to 5)");
        for (int place = 0; place <= 5; place += 5) {
            ChaseTable x = new ChaseTable(3);
            due.is("door from " + place, x.door(place, 3, true), 0);
            due.is("door to " + place, x.door(3, place, true), 0);
            due.is("exit " + place, x.exit(place, true), 0);
            due.is("set on " + place, x.set(place, place, place, true), 0);
            due.is("board() on " + place, x.board(), Edges.board(place, place, place, true));
            due.is("outcome on " + place, x.outcome(place, place, place, true), 1);
            due.is("length on " + place, x.length(place, place, place, true), 0);
        }
        for (int place = -1; place <= 6; place += 7) {
            ChaseTable x = new ChaseTable(3);
            due.is("door from " + place, x.door(place, 3, true), -1);
            due.is("door to " + place, x.door(3, place, true), -1);
            due.is("exit " + place, x.exit(place, true), -1);
            due.is("set on " + place, x.set(place, place, place, true), -1);
            due.is("outcome on " + place, x.outcome(place, place, place, true), -1);
            due.is("length on " + place, x.length(place, place, place, true), -1);
        }
    }

    private static void oneWayDoors() {
        due.sentence("Terms", "one-way doors between them");
        for (int i = 0; i < 36; i++) {
            int from = i / 6;
            int to = i % 6;
            if (from == to) continue;
            int t = otherThan(from, to);
            ChaseTable x = oneDoor(0, from, to);
            x.set(to, to, t, false);
            due.is("A back from " + to + " to " + from, x.play(from), -2);
            due.is("B back from " + to + " to " + from, x.play(6 + from), -2);
            x.set(t, t, to, true);
            due.is("the thief back from " + to + " to " + from, x.play(from), -2);
            due.is("the door back", x.door(to, from, false), 0);
            due.is("the door there", x.door(from, to, false), 1);
        }
    }

    private static void severalOnOnePlace() {
        due.sentence("Terms", "several may stand on the same place");
        ChaseTable x = Edges.map(0, "34 53", "");
        due.is("all three", x.set(3, 3, 3, false), 0);
        due.is("both guards", x.set(3, 3, 5, false), 0);
        due.is("A goes from there", x.play(4), 0);
        due.is("board()", x.board(), Edges.board(4, 3, 5, true));
        x.set(3, 3, 5, false);
        due.is("B goes from there", x.play(6 + 4), 0);
        due.is("board()", x.board(), Edges.board(3, 4, 5, true));
        x.set(3, 4, 5, false);
        due.is("A goes to B", x.play(4), 0);
        due.is("board()", x.board(), Edges.board(4, 4, 5, true));
        x.set(0, 3, 5, true);
        due.is("the thief goes to B", x.play(3), 0);
        due.is("board()", x.board(), Edges.board(0, 3, 3, false));
        due.is("and is caught", x.outcome(0, 3, 3, false), 1);
    }

    private static void sidesMoveInTurn() {
        due.sentence("Terms", "The sides move in turn.");
        ChaseTable x = Edges.map(1, "02 54", "");
        due.is("the thief's door when the guards are to move", x.play(4), -2);
        due.is("A goes", x.play(2), 0);
        due.is("the guards again", x.play(12), -2);
        due.is("the thief goes", x.play(4), 0);
        due.is("the thief again", x.play(5), -2);
        due.is("the guards wait", x.play(12), 0);
        due.is("board()", x.board(), Edges.board(2, 1, 4, true));
    }

    /** On a map where all can wait, what is not over is won by nobody. */
    private static void caught() {
        due.sentence("Terms", "It is OVER, and the guards have won, if t == a or t == b");
        for (int turn = 0; turn < 2; turn++) {
            ChaseTable empty = new ChaseTable(3);
            ChaseTable full = Edges.allDoors(3, "0 1 2 3 4 5");
            for (int i = 0; i < 216; i++) {
                int a = i / 36;
                int b = i / 6 % 6;
                int t = i % 6;
                String at = "outcome(" + a + ", " + b + ", " + t + ", " + (turn == 1) + ")";
                due.is(at + " without exits", empty.outcome(a, b, t, turn == 1), t == a || t == b ? 1 : 0);
                due.is(at + " among exits", full.outcome(a, b, t, turn == 1), t == a || t == b ? 1 : 2);
            }
        }
    }

    private static void out() {
        due.sentence("Terms", "else it is OVER, and the thief has won, if t is an exit.");
        for (int exit = 0; exit < 6; exit++) {
            int elsewhere = (exit + 1) % 6;
            int guard = (exit + 2) % 6;
            ChaseTable x = Edges.map(3, "", "" + exit);
            for (int turn = 0; turn < 2; turn++) {
                String at = "exit " + exit + ", turn " + turn + ": ";
                due.is(at + "the thief on it", x.outcome(guard, guard, exit, turn == 1), 2);
                due.is(at + "the thief on it, length", x.length(guard, guard, exit, turn == 1), 0);
                due.is(at + "A and the thief on it", x.outcome(exit, guard, exit, turn == 1), 1);
                due.is(at + "B and the thief on it", x.outcome(guard, exit, exit, turn == 1), 1);
                due.is(at + "the guards on it", x.outcome(exit, exit, elsewhere, turn == 1), 0);
                due.is(at + "nobody on it", x.outcome(guard, guard, elsewhere, turn == 1), 0);
            }
        }
    }

    private static void guardAGoes() {
        due.sentence("Terms",
            "guards to move: code x, 0 to 5: guard A goes from a to x, if there is a door from a to x.");
        for (int i = 0; i < 36; i++) {
            int from = i / 6;
            int to = i % 6;
            int t = otherThan(from, to);
            if (from != to) onlyMove(oneDoor(0, from, to), from, to, t, false, to, Edges.board(to, to, t, true));
        }
    }

    private static void guardBGoes() {
        due.sentence("Terms", "Code 6 + x: guard B goes from b to x, if there is a door from b to x.");
        for (int i = 0; i < 36; i++) {
            int from = i / 6;
            int to = i % 6;
            int t = otherThan(from, to);
            if (from != to) onlyMove(oneDoor(0, from, to), to, from, t, false, 6 + to, Edges.board(to, to, t, true));
        }
    }

    private static ChaseTable oneDoor(int waits, int from, int to) {
        return Edges.map(waits, "" + from + to, "");
    }

    /** Every code but one is refused, and that one leads to the board that is due. */
    private static void onlyMove(ChaseTable x, int a, int b, int t, boolean thiefMoves, int move, int boardAfter) {
        String at = "(" + a + ", " + b + ", " + t + ", " + thiefMoves + "): ";
        x.set(a, b, t, thiefMoves);
        for (int code = -1; code <= 13; code++) {
            if (code != move) due.is(at + "play(" + code + ")", x.play(code), -2);
        }
        due.is(at + "board() as before", x.board(), Edges.board(a, b, t, thiefMoves));
        due.is(at + "play(" + move + ")", x.play(move), 0);
        due.is(at + "board() after " + move, x.board(), boardAfter);
    }

    private static void guardsWait() {
        due.sentence("Terms", "Code 12: both wait, if guards may wait.");
        for (int waits = 0; waits < 4; waits++) {
            ChaseTable x = new ChaseTable(waits);
            boolean may = (waits & 1) != 0;
            due.is("waits " + waits + ", play(12)", x.play(12), may ? 0 : -2);
            due.is("waits " + waits + ", board()", x.board(), Edges.board(0, 1, 5, may));
            x.set(0, 1, 5, false);
            due.is("waits " + waits + ", play(13)", x.play(13), -2);
            due.is("waits " + waits + ", play(11)", x.play(11), -2);
        }
    }

    /** The guards may wait here, and B stands where the door leads: neither makes a code a move of the thief's. */
    private static void thiefGoes() {
        due.sentence("Terms",
            "thief to move: code x, 0 to 5: the thief goes from t to x, if there is a door from t to x.");
        for (int i = 0; i < 36; i++) {
            int from = i / 6;
            int to = i % 6;
            int a = otherThan(from, to);
            if (from != to) onlyMove(oneDoor(1, from, to), a, to, from, true, to, Edges.board(a, to, to, false));
        }
    }

    private static void thiefWaits() {
        due.sentence("Terms", "Code 12: the thief waits, if the thief may wait.");
        for (int waits = 0; waits < 4; waits++) {
            ChaseTable x = Edges.allDoors(waits, "");
            boolean may = (waits & 2) != 0;
            x.set(3, 4, 2, true);
            for (int code = 6; code < 12; code++) due.is("play(" + code + ")", x.play(code), -2);
            due.is("waits " + waits + ", play(12)", x.play(12), may ? 0 : -2);
            due.is("waits " + waits + ", board()", x.board(), Edges.board(3, 4, 2, !may));
        }
    }

    private static void otherSideIsToMove() {
        due.sentence("Terms", "After a move the other side is to move.");
        ChaseTable x = Edges.map(3, "02 13 54", "");
        int[] codes = {2, 4, 6 + 3, 12, 12, 12};
        for (int i = 0; i < codes.length; i++) {
            due.is("play(" + codes[i] + ")", x.play(codes[i]), 0);
            due.is("the thief is to move", x.board() / 512, (i + 1) % 2);
        }
        x = Edges.map(0, "05 54", "4");
        x.play(5);
        due.is("also after the move that catches", x.board(), Edges.board(5, 1, 5, true));
        x.set(0, 1, 5, true);
        x.play(4);
        due.is("also after the move that gets out", x.board(), Edges.board(0, 1, 4, false));
    }

    private static int otherThan(int one, int another) {
        int place = 0;
        while (place == one || place == another) place++;
        return place;
    }
}
