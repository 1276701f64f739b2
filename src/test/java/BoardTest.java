/** Promises 4 to 6: set, play, board. Each sentence has its own test. */
public final class BoardTest {
    private static final Due due = new Due();

    public static void main(String[] args) {
        setPutsOnTheBoard();
        setRefusesPlaces();
        setRefusedChangesNothing();
        setAnswers();
        playMoves();
        playRefusesCodes();
        playRefusesWhenOver();
        playRefusesWhenStuck();
        playRefusedChangesNothing();
        playAnswers();
        playChangesOnlyTheBoard();
        boardAsNumber();
        askingChangesNothing();
        due.end();
    }

    /** Also into positions that are over, or have no move. */
    private static void setPutsOnTheBoard() {
        due.sentence("Promise 4", "Puts the chase on the board into this position.");
        for (int kind = 0; kind < 3; kind++) {
            for (int turn = 0; turn < 2; turn++) {
                ChaseTable x = Edges.sample(kind);
                for (int i = 0; i < 216; i++) {
                    x.set(i / 36, i / 6 % 6, i % 6, turn == 1);
                    due.is("board()", x.board(), Edges.board(i / 36, i / 6 % 6, i % 6, turn == 1));
                }
            }
        }
    }

    private static void setRefusesPlaces() {
        due.sentence("Promise 4", "One of a, b, t not in 0 to 5: BAD_PLACE");
        ChaseTable x = new ChaseTable(0);
        for (int wrong : Edges.NO_PLACES) {
            due.is("set(" + wrong + ", 0, 5)", x.set(wrong, 0, 5, false), -1);
            due.is("set(5, " + wrong + ", 0)", x.set(5, wrong, 0, true), -1);
            due.is("set(0, 5, " + wrong + ")", x.set(0, 5, wrong, false), -1);
            due.is("set(" + wrong + ", " + wrong + ", 1)", x.set(wrong, wrong, 1, true), -1);
            due.is("set(" + wrong + ", 1, " + wrong + ")", x.set(wrong, 1, wrong, false), -1);
            due.is("set(1, " + wrong + ", " + wrong + ")", x.set(1, wrong, wrong, true), -1);
            due.is("set(" + wrong + " thrice)", x.set(wrong, wrong, wrong, false), -1);
        }
        // Each makes up for the other in a + 6 * b + 36 * t or in a + 8 * b + 64 * t.
        due.is("set(6, -1, 0)", x.set(6, -1, 0, false), -1);
        due.is("set(-6, 1, 0)", x.set(-6, 1, 0, false), -1);
        due.is("set(8, -1, 0)", x.set(8, -1, 0, true), -1);
        due.is("set(0, 8, -1)", x.set(0, 8, -1, true), -1);
    }

    private static void setRefusedChangesNothing() {
        due.sentence("Promise 4", "BAD_PLACE, nothing changes.");
        for (int kind = 0; kind < 3; kind++) {
            ChaseTable x = Edges.sample(kind);
            for (int wrong : Edges.NO_PLACES) {
                x.set(wrong, 3, 4, true);
                x.set(3, wrong, 4, false);
                x.set(3, 4, wrong, true);
                x.set(3, 4, wrong, false);
                x.set(wrong, wrong, wrong, true);
            }
            Edges.sameState(due, "after refused sets, map " + kind, x, Edges.sample(kind));
        }
    }

    private static void setAnswers() {
        due.sentence("Promise 4", "Else answers 0.");
        ChaseTable x = Edges.sample(1);
        for (int p = 0; p < 432; p++) {
            due.is("set to position " + p, x.set(p / 72, p / 12 % 6, p / 2 % 6, p % 2 == 1), 0);
        }
        due.is("set to the same again", x.set(5, 5, 5, true), 0);
    }

    private static void playMoves() {
        due.sentence("Promise 5", "Makes a move in the chase on the board.");
        ChaseTable x = Edges.map(3, "02 14 53 20", "");
        int[] codes = {2, 3, 6 + 4, 12, 12, 12, 0};
        int[] boards = {
            Edges.board(2, 1, 5, true), Edges.board(2, 1, 3, false), Edges.board(2, 4, 3, true),
            Edges.board(2, 4, 3, false), Edges.board(2, 4, 3, true), Edges.board(2, 4, 3, false),
            Edges.board(0, 4, 3, true)};
        for (int i = 0; i < codes.length; i++) {
            x.play(codes[i]);
            due.is("board() after play(" + codes[i] + ")", x.board(), boards[i]);
        }
    }

    private static void playRefusesCodes() {
        due.sentence("Promise 5",
            "The code is no move of its position (or the position is over): BAD_MOVE", "no move of it");
        ChaseTable x = Edges.allDoors(3, "");
        for (int turn = 0; turn < 2; turn++) {
            x.set(2, 3, 4, turn == 1);
            for (int code : Edges.NO_CODES) due.is("play(" + code + "), turn " + turn, x.play(code), -2);
        }
        x.set(2, 3, 4, false);
        due.is("A stays, which is no move", x.play(2), -2);
        due.is("B stays, which is no move", x.play(6 + 3), -2);
        x.set(2, 3, 4, true);
        due.is("the thief stays, which is no move", x.play(4), -2);
        for (int code = 6; code < 12; code++) due.is("B's code " + code + " for the thief", x.play(code), -2);
        x.door(2, 5, false);
        x.set(2, 3, 4, false);
        due.is("a door that is shut by now", x.play(5), -2);
        due.is("B's own door there", x.play(6 + 5), 0);
    }

    private static void playRefusesWhenOver() {
        due.sentence("Promise 5",
            "The code is no move of its position (or the position is over): BAD_MOVE", "over");
        ChaseTable x = Edges.allDoors(3, "5");
        int[][] over = {{3, 1, 3}, {1, 3, 3}, {3, 3, 3}, {1, 2, 5}, {5, 2, 5}, {0, 0, 0}};
        for (int[] p : over) {
            for (int turn = 0; turn < 2; turn++) {
                x.set(p[0], p[1], p[2], turn == 1);
                for (int code = -1; code < 14; code++) due.is("play(" + code + ") when over", x.play(code), -2);
                due.is("board()", x.board(), Edges.board(p[0], p[1], p[2], turn == 1));
            }
        }
        x.set(5, 5, 1, false);
        due.is("a guard on an exit ends nothing", x.play(4), 0);
        x.exit(1, true);
        due.is("an exit made where the thief stands ends it", x.play(12), -2);
        x.exit(1, false);
        due.is("and goes on when it is taken back", x.play(12), 0);
    }

    private static void playRefusesWhenStuck() {
        due.sentence("Promise 5",
            "The code is no move of its position (or the position is over): BAD_MOVE", "it has no move");
        ChaseTable x = new ChaseTable(0);
        for (int turn = 0; turn < 2; turn++) {
            x.set(0, 1, 5, turn == 1);
            for (int code = -1; code < 14; code++) due.is("play(" + code + "), turn " + turn, x.play(code), -2);
            for (int code : Edges.NO_CODES) due.is("play(" + code + "), turn " + turn, x.play(code), -2);
            due.is("board()", x.board(), Edges.board(0, 1, 5, turn == 1));
        }
    }

    private static void playRefusedChangesNothing() {
        due.sentence("Promise 5", "BAD_MOVE, nothing changes.");
        for (int kind = 0; kind < 3; kind++) {
            ChaseTable x = Edges.sample(kind);
            for (int code : Edges.NO_CODES) x.play(code);
            // The thief of map 1 may go by codes 1 and 5; on the other two maps there is no move.
            for (int code = 0; code <= 12; code++) {
                if (kind != 1 || code != 1 && code != 5) x.play(code);
            }
            Edges.sameState(due, "after refused moves, map " + kind, x, Edges.sample(kind));
        }
    }

    private static void playAnswers() {
        due.sentence("Promise 5", "Else answers 0.", "first and last codes");
        ChaseTable x = Edges.allDoors(3, "");
        int[] codes = {0, 4, 6, 11, 12};
        for (int code : codes) {
            x.set(5, 4, 3, false);
            due.is("play(" + code + ") of the guards", x.play(code), 0);
        }
        x.set(0, 4, 3, false);
        due.is("play(5) of the guards", x.play(5), 0);
        int[] thiefs = {0, 5, 12};
        for (int code : thiefs) {
            x.set(1, 2, 3, true);
            due.is("play(" + code + ") of the thief", x.play(code), 0);
        }
        x.set(5, 4, 3, false);
        due.is("play(3), which catches", x.play(3), 0);
    }

    private static void playChangesOnlyTheBoard() {
        due.sentence("Promise 5", "Makes a move in the chase on the board.", "and nothing else");
        ChaseTable x = Edges.sample(1);
        x.play(5);
        x.play(12);
        ChaseTable twin = Edges.sample(1);
        twin.set(2, 4, 5, true);
        Edges.sameState(due, "after two moves", x, twin);
    }

    private static void boardAsNumber() {
        due.sentence("Promise 6", "a + 8 * b + 64 * t, and 512 more if the thief is to move.");
        ChaseTable x = new ChaseTable(0);
        x.set(0, 0, 0, false);
        due.is("the smallest", x.board(), 0);
        x.set(5, 5, 5, true);
        due.is("the greatest", x.board(), 877);
        x.set(5, 0, 0, false);
        due.is("A alone", x.board(), 5);
        x.set(0, 5, 0, false);
        due.is("B alone", x.board(), 40);
        x.set(0, 0, 5, false);
        due.is("the thief alone", x.board(), 320);
        x.set(0, 0, 0, true);
        due.is("the turn alone", x.board(), 512);
    }

    private static void askingChangesNothing() {
        due.sentence("Promise 6", "Changes nothing (nor do the calls below).");
        for (int kind = 0; kind < 3; kind++) {
            ChaseTable boards = Edges.sample(kind);
            for (int i = 0; i < 50; i++) boards.board();
            Edges.sameState(due, "after board(), map " + kind, boards, Edges.sample(kind));
            ChaseTable x = Edges.sample(kind);
            for (int wrong : Edges.NO_PLACES) {
                x.outcome(wrong, 1, 2, true);
                x.outcome(1, wrong, 2, false);
                x.length(1, 2, wrong, true);
                x.length(wrong, wrong, wrong, false);
            }
            for (int p = 0; p < 216; p++) {
                if (p % 2 == 0) x.outcome(p / 36, p / 6 % 6, p % 6, p % 4 == 0);
                else x.length(p / 36, p / 6 % 6, p % 6, p % 4 == 1);
            }
            for (int who = -1; who < 4; who++) {
                x.best();
                x.total(who);
                x.longest(who);
            }
            for (int who : Edges.NO_SIDES) {
                x.total(who);
                x.longest(who);
            }
            Edges.sameState(due, "after asking, map " + kind, x, Edges.sample(kind));
        }
    }
}
