/** Promises 1 to 3: a new object, door, exit. */
public final class MapTest {
    private static final Due due = new Due();
    private static final int[] NO_PLACES = {-1, 6, 7, -6, 36, 1 << 16, Integer.MIN_VALUE, Integer.MAX_VALUE};

    public static void main(String[] args) {
        newBoard();
        newMap();
        waits();
        doorAnswers();
        doorRefuses();
        doorIsOneWay();
        doorShutsAgain();
        exitAnswers();
        exitCountsAndIsTakenBack();
        due.end();
    }

    private static void newBoard() {
        for (int waits = 0; waits < 4; waits++) {
            due.is("board() of a new object", new ChaseTable(waits).board(), 0 + 8 * 1 + 64 * 5);
        }
    }

    private static void newMap() {
        ChaseTable doors = new ChaseTable(0);
        for (int from = 0; from < 6; from++) {
            for (int to = 0; to < 6; to++) {
                if (from != to) due.is("first door(" + from + ", " + to + ")", doors.door(from, to, false), 0);
            }
        }
        ChaseTable exits = new ChaseTable(0);
        for (int place = 0; place < 6; place++) due.is("first exit(" + place + ")", exits.exit(place, false), 0);
    }

    /** Without doors only waiting is a move, so the totals tell who may wait: 132 positions are over. */
    private static void waits() {
        int[] nobody = {0, 0, 0, 300};
        int[] guards = {282, 432, 132, 132};
        int[] thief = {150, 0, 300, 0};
        int[] all = {0, 1, 2, 3, 4, 5, 6, 7, -1, -2, -3, -4, 8, Integer.MIN_VALUE, Integer.MAX_VALUE};
        for (int waits : all) {
            ChaseTable x = new ChaseTable(waits);
            String name = "waits " + waits + ": ";
            due.is(name + "total(NOBODY)", x.total(0), nobody[waits & 3]);
            due.is(name + "total(GUARDS)", x.total(1), guards[waits & 3]);
            due.is(name + "total(THIEF)", x.total(2), thief[waits & 3]);
            due.is(name + "play(12), guards", x.play(12), (waits & 1) != 0 ? 0 : -2);
            x.set(0, 1, 5, true);
            due.is(name + "play(12), thief", x.play(12), (waits & 2) != 0 ? 0 : -2);
        }
    }

    private static void doorAnswers() {
        ChaseTable x = new ChaseTable(0);
        for (int from = 0; from < 6; from++) {
            for (int to = 0; to < 6; to++) {
                if (from == to) continue;
                String name = "door(" + from + ", " + to + ", ";
                due.is(name + "true)", x.door(from, to, true), 0);
                due.is(name + "true) again", x.door(from, to, true), 1);
                due.is(name + "false)", x.door(from, to, false), 1);
                due.is(name + "false) again", x.door(from, to, false), 0);
                due.is(name + "true) at last", x.door(from, to, true), 0);
            }
        }
        for (int i = 0; i < 36; i++) {
            if (i / 6 != i % 6) due.is("door " + i + " stayed", x.door(i / 6, i % 6, true), 1);
        }
    }

    private static void doorRefuses() {
        ChaseTable x = new ChaseTable(0);
        for (int wrong : NO_PLACES) {
            due.is("door(" + wrong + ", 0)", x.door(wrong, 0, true), -1);
            due.is("door(0, " + wrong + ")", x.door(0, wrong, true), -1);
            due.is("door(5, " + wrong + ")", x.door(5, wrong, true), -1);
            due.is("door(" + wrong + ", " + wrong + "): the place is tested first", x.door(wrong, wrong, true), -1);
        }
        for (int place = 0; place < 6; place++) {
            due.is("door(" + place + ", " + place + ", true)", x.door(place, place, true), -2);
            due.is("door(" + place + ", " + place + ", false)", x.door(place, place, false), -2);
        }
        due.is("nothing opened", x.total(2), 150);
        for (int i = 0; i < 36; i++) {
            if (i / 6 != i % 6) due.is("door " + i + " is shut", x.door(i / 6, i % 6, true), 0);
        }
        for (int wrong : NO_PLACES) {
            x.door(wrong, 0, false);
            x.door(0, wrong, false);
        }
        for (int i = 0; i < 36; i++) {
            if (i / 6 != i % 6) due.is("door " + i + " is open", x.door(i / 6, i % 6, true), 1);
        }
    }

    private static void doorIsOneWay() {
        ChaseTable x = new ChaseTable(0);
        x.door(0, 3, true);
        due.is("door(3, 0) is another door", x.door(3, 0, false), 0);
        x.set(3, 3, 5, false);
        due.is("no way back for A", x.play(0), -2);
        due.is("no way back for B", x.play(6), -2);
        x.set(0, 0, 5, false);
        due.is("the way there", x.play(3), 0);
    }

    private static void doorShutsAgain() {
        ChaseTable x = new ChaseTable(3);
        x.door(0, 5, true);
        due.is("caught in 1", x.length(0, 1, 5, false), 1);
        due.is("best()", x.best(), 5);
        x.door(0, 5, false);
        due.is("caught no more", x.length(0, 1, 5, false), -3);
        due.is("best()", x.best(), 12);
        due.is("play(5)", x.play(5), -2);
    }

    private static void exitAnswers() {
        ChaseTable x = new ChaseTable(0);
        for (int wrong : NO_PLACES) {
            due.is("exit(" + wrong + ", true)", x.exit(wrong, true), -1);
            due.is("exit(" + wrong + ", false)", x.exit(wrong, false), -1);
        }
        due.is("nothing became an exit", x.total(2), 150);
        for (int place = 0; place < 6; place++) {
            String name = "exit(" + place + ", ";
            due.is(name + "true)", x.exit(place, true), 0);
            due.is(name + "true) again", x.exit(place, true), 1);
            due.is(name + "false)", x.exit(place, false), 1);
            due.is(name + "false) again", x.exit(place, false), 0);
            due.is(name + "true) at last", x.exit(place, true), 0);
        }
        for (int place = 0; place < 6; place++) due.is("exit " + place + " stayed", x.exit(place, true), 1);
    }

    private static void exitCountsAndIsTakenBack() {
        ChaseTable x = new ChaseTable(3);
        x.exit(5, true);
        due.is("the thief is out", x.outcome(0, 1, 5, false), 2);
        due.is("play(12) when over", x.play(12), -2);
        due.is("total(THIEF)", x.total(2), 50);
        x.exit(5, false);
        due.is("the thief is in again", x.outcome(0, 1, 5, false), 0);
        due.is("total(THIEF)", x.total(2), 0);
        due.is("play(12)", x.play(12), 0);
    }
}
