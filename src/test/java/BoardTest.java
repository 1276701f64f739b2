/** Promises 4 to 6: set, play, board. */
public final class BoardTest {
    private static final Due due = new Due();
    private static final int[] NO_PLACES = {-1, 6, 7, -6, 36, 1 << 16, Integer.MIN_VALUE, Integer.MAX_VALUE};
    private static final int[] NO_CODES = {-1, -6, 13, 14, 18, 1 << 16, Integer.MIN_VALUE, Integer.MAX_VALUE};

    public static void main(String[] args) {
        setEveryPosition(false);
        setEveryPosition(true);
        setRefuses();
        guardsPlay();
        thiefPlays();
        playRefusesWrongCodes();
        nobodyPlaysWhenOver();
        askingChangesNothing();
        due.end();
    }

    private static void setEveryPosition(boolean thiefMoves) {
        ChaseTable x = new ChaseTable(0);
        for (int i = 0; i < 216; i++) {
            int a = i / 36;
            int b = i / 6 % 6;
            int t = i % 6;
            due.is("set(" + a + ", " + b + ", " + t + ")", x.set(a, b, t, thiefMoves), 0);
            due.is("board()", x.board(), a + 8 * b + 64 * t + (thiefMoves ? 512 : 0));
        }
    }

    private static void setRefuses() {
        ChaseTable x = new ChaseTable(0);
        x.set(2, 3, 4, true);
        for (int wrong : NO_PLACES) {
            due.is("set(" + wrong + ", 0, 0)", x.set(wrong, 0, 0, false), -1);
            due.is("set(0, " + wrong + ", 0)", x.set(0, wrong, 0, false), -1);
            due.is("set(0, 0, " + wrong + ")", x.set(0, 0, wrong, false), -1);
            due.is("board()", x.board(), 2 + 8 * 3 + 64 * 4 + 512);
        }
    }

    private static void guardsPlay() {
        for (int x = 0; x < 6; x++) {
            for (int from = 0; from < 6; from++) {
                if (x == from) continue;
                int t = (from + 1) % 6 == x ? (from + 2) % 6 : (from + 1) % 6;
                int other = (t + 1) % 6;
                ChaseTable table = new ChaseTable(0);
                table.door(from, x, true);
                String name = "from " + from + " to " + x + ": ";
                table.set(from, other, t, false);
                int before = table.board();
                if (other != from) due.is(name + "B has no such door", table.play(6 + x), -2);
                due.is(name + "board() as before", table.board(), before);
                due.is(name + "A goes", table.play(x), 0);
                due.is(name + "board()", table.board(), x + 8 * other + 64 * t + 512);
                table.set(other, from, t, false);
                if (other != from) due.is(name + "A has no such door", table.play(x), -2);
                due.is(name + "B goes", table.play(6 + x), 0);
                due.is(name + "board()", table.board(), other + 8 * x + 64 * t + 512);
            }
        }
        ChaseTable waiting = new ChaseTable(1);
        due.is("both wait", waiting.play(12), 0);
        due.is("board()", waiting.board(), 8 + 320 + 512);
        due.is("the thief may not", waiting.play(12), -2);
        due.is("board()", waiting.board(), 8 + 320 + 512);
    }

    private static void thiefPlays() {
        for (int x = 0; x < 6; x++) {
            for (int from = 0; from < 6; from++) {
                if (x == from) continue;
                int a = (from + 1) % 6;
                int b = (from + 3) % 6;
                ChaseTable table = new ChaseTable(1);
                table.door(from, x, true);
                table.set(a, b, from, true);
                String name = "thief from " + from + " to " + x + ": ";
                for (int code = 0; code < 13; code++) {
                    if (code != x) due.is(name + "play(" + code + ")", table.play(code), -2);
                }
                due.is(name + "board() as before", table.board(), a + 8 * b + 64 * from + 512);
                due.is(name + "play(" + x + ")", table.play(x), 0);
                due.is(name + "board()", table.board(), a + 8 * b + 64 * x);
            }
        }
        ChaseTable waiting = new ChaseTable(2);
        due.is("the guards may not wait", waiting.play(12), -2);
        waiting.set(3, 4, 2, true);
        due.is("the thief waits", waiting.play(12), 0);
        due.is("board()", waiting.board(), 3 + 8 * 4 + 64 * 2);
    }

    private static ChaseTable openMap() {
        ChaseTable x = new ChaseTable(3);
        for (int i = 0; i < 36; i++) x.door(i / 6, i % 6, true);
        return x;
    }

    private static void playRefusesWrongCodes() {
        ChaseTable x = openMap();
        for (int turn = 0; turn < 2; turn++) {
            x.set(2, 3, 4, turn == 1);
            int before = x.board();
            for (int code : NO_CODES) due.is("play(" + code + ")", x.play(code), -2);
            due.is("A stays, which is no move", x.play(turn == 1 ? 4 : 2), -2);
            due.is("B stays, which is no move", x.play(9), -2);
            due.is("board()", x.board(), before);
        }
    }

    private static void nobodyPlaysWhenOver() {
        ChaseTable x = openMap();
        x.exit(5, true);
        int[][] over = {{3, 1, 3}, {1, 3, 3}, {3, 3, 3}, {1, 2, 5}, {5, 2, 5}};
        for (int[] p : over) {
            for (int turn = 0; turn < 2; turn++) {
                x.set(p[0], p[1], p[2], turn == 1);
                int before = x.board();
                for (int code = -1; code < 14; code++) due.is("play(" + code + ") when over", x.play(code), -2);
                due.is("board()", x.board(), before);
            }
        }
        x.set(5, 5, 1, false);
        due.is("a guard on an exit ends nothing", x.play(4), 0);
    }

    private static void askingChangesNothing() {
        ChaseTable x = openMap();
        x.exit(0, true);
        x.set(1, 2, 3, true);
        int total = x.total(2);
        x.outcome(4, 4, 5, false);
        x.length(4, 4, 5, false);
        x.outcome(9, 4, 5, false);
        x.length(4, -9, 5, false);
        x.best();
        x.total(7);
        x.longest(1);
        x.longest(-7);
        due.is("board()", x.board(), 1 + 8 * 2 + 64 * 3 + 512);
        due.is("board() again", x.board(), 1 + 8 * 2 + 64 * 3 + 512);
        due.is("total(THIEF)", x.total(2), total);
        for (int i = 0; i < 36; i++) {
            if (i / 6 != i % 6) due.is("door " + i, x.door(i / 6, i % 6, true), 1);
        }
        for (int place = 0; place < 6; place++) due.is("exit " + place, x.exit(place, false), place == 0 ? 1 : 0);
    }
}
