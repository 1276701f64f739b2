/** Promises 1 to 3: a new object, door, exit. Each sentence has its own test. */
public final class MapTest {
    private static final Due due = new Due();

    public static void main(String[] args) {
        whoMayWait();
        newMap();
        newBoard();
        doorOpensAndShuts();
        doorRefusesPlaces();
        doorRefusesSamePlace();
        doorTestsInOrder();
        doorRefusedChangesNothing();
        doorAnswers();
        exitMadeAndTakenBack();
        exitRefusesPlaces();
        exitRefusedChangesNothing();
        exitAnswers();
        allDoorsOpen();
        allPlacesExits();
        due.end();
    }

    private static void whoMayWait() {
        due.sentence("Promise 1", "Guards may wait if waits & 1 is not 0, the thief if waits & 2 is not 0.");
        int[] few = {0, 1, 2, 3, 4, 5, 6, 7, -1, -2, -3, -4, -5, 256, Integer.MAX_VALUE, Integer.MAX_VALUE - 1};
        for (int waits : few) whoMayWait(waits);
        for (int bit = 0; bit < 32; bit++) {
            whoMayWait(1 << bit);
            whoMayWait(~(1 << bit));
        }
    }

    /** Without doors only waiting is a move, so the totals tell who may wait: 132 positions are over. */
    private static void whoMayWait(int waits) {
        int[] nobody = {0, 0, 0, 300};
        int[] guards = {282, 432, 132, 132};
        int[] thief = {150, 0, 300, 0};
        ChaseTable x = new ChaseTable(waits);
        String name = "waits " + waits + ": ";
        due.is(name + "total(NOBODY)", x.total(0), nobody[waits & 3]);
        due.is(name + "total(GUARDS)", x.total(1), guards[waits & 3]);
        due.is(name + "total(THIEF)", x.total(2), thief[waits & 3]);
        due.is(name + "play(12), guards", x.play(12), (waits & 1) != 0 ? 0 : -2);
        x.set(0, 1, 5, true);
        due.is(name + "play(12), thief", x.play(12), (waits & 2) != 0 ? 0 : -2);
    }

    private static void newMap() {
        due.sentence("Promise 1", "No doors, no exits.");
        // Another object's doors and exits are not this one's.
        ChaseTable another = Edges.allDoors(0, "0 1 2 3 4 5");
        ChaseTable x = new ChaseTable(0);
        due.is("total(THIEF)", x.total(2), 150);
        for (int i = 0; i < 36; i++) {
            if (i / 6 != i % 6) due.is("first door " + i / 6 + i % 6, x.door(i / 6, i % 6, false), 0);
        }
        for (int place = 0; place < 6; place++) due.is("first exit " + place, x.exit(place, false), 0);
        due.is("the other object's total(THIEF)", another.total(2), 300);
    }

    private static void newBoard() {
        due.sentence("Promise 1", "The chase on the board starts as (0, 1, 5, false).");
        int[] all = {0, 1, 2, 3, 4, -1, 512, Integer.MIN_VALUE, Integer.MAX_VALUE};
        for (int waits : all) due.is("board(), waits " + waits, new ChaseTable(waits).board(), 0 + 8 * 1 + 64 * 5);
    }

    private static void doorOpensAndShuts() {
        due.sentence("Promise 2", "Opens or shuts the door from one place to another.");
        for (int i = 0; i < 36; i++) {
            int from = i / 6;
            int to = i % 6;
            int free = from == 0 || to == 0 ? (from == 1 || to == 1 ? 2 : 1) : 0;
            if (from == to) continue;
            ChaseTable x = new ChaseTable(3);
            x.set(from, free, to, false);
            due.is("shut at first, best()", x.best(), 12);
            x.door(from, to, true);
            due.is("open " + from + to + ", length", x.length(from, free, to, false), 1);
            due.is("open " + from + to + ", best()", x.best(), to);
            x.door(from, to, false);
            due.is("shut " + from + to + ", length", x.length(from, free, to, false), -3);
            due.is("shut " + from + to + ", best()", x.best(), 12);
            due.is("shut " + from + to + ", play()", x.play(to), -2);
        }
    }

    private static void doorRefusesPlaces() {
        due.sentence("Promise 2", "from or to not in 0 to 5: BAD_PLACE");
        ChaseTable x = new ChaseTable(0);
        for (int wrong : Edges.NO_PLACES) {
            for (int place = 0; place < 6; place++) {
                due.is("door(" + wrong + ", " + place + ")", x.door(wrong, place, true), -1);
                due.is("door(" + place + ", " + wrong + ")", x.door(place, wrong, true), -1);
            }
            due.is("door(" + wrong + ", -1)", x.door(wrong, -1, false), -1);
            due.is("door(" + wrong + ", 6)", x.door(wrong, 6, false), -1);
        }
    }

    private static void doorRefusesSamePlace() {
        due.sentence("Promise 2", "from == to: BAD_MOVE");
        for (int kind = 0; kind < 3; kind++) {
            ChaseTable x = Edges.sample(kind);
            for (int place = 0; place < 6; place++) {
                due.is("door(" + place + ", " + place + ", true)", x.door(place, place, true), -2);
                due.is("door(" + place + ", " + place + ", false)", x.door(place, place, false), -2);
            }
        }
    }

    private static void doorTestsInOrder() {
        due.sentence("Promise 2", "Tests in this order");
        ChaseTable x = new ChaseTable(0);
        for (int wrong : Edges.NO_PLACES) {
            due.is("door(" + wrong + ", " + wrong + ", true)", x.door(wrong, wrong, true), -1);
            due.is("door(" + wrong + ", " + wrong + ", false)", x.door(wrong, wrong, false), -1);
        }
    }

    private static void doorRefusedChangesNothing() {
        due.sentence("Promise 2", "nothing changes then.");
        for (int kind = 0; kind < 3; kind++) {
            for (int open = 0; open < 2; open++) {
                ChaseTable x = Edges.sample(kind);
                for (int wrong : Edges.NO_PLACES) {
                    x.door(wrong, 0, open == 1);
                    x.door(wrong, 5, open == 1);
                    x.door(0, wrong, open == 1);
                    x.door(5, wrong, open == 1);
                    x.door(wrong, wrong, open == 1);
                }
                for (int place = 0; place < 6; place++) x.door(place, place, open == 1);
                String when = "after refused doors, map " + kind + ", open " + open;
                Edges.sameState(due, when, x, Edges.sample(kind));
            }
        }
    }

    private static void doorAnswers() {
        due.sentence("Promise 2", "Else answers 1 if the door was open before, 0 if not.");
        ChaseTable x = new ChaseTable(0);
        for (int i = 0; i < 36; i++) {
            if (i / 6 == i % 6) continue;
            String name = "door " + i / 6 + i % 6;
            due.is(name + " shut when shut", x.door(i / 6, i % 6, false), 0);
            due.is(name + " opened", x.door(i / 6, i % 6, true), 0);
            due.is(name + " opened when open", x.door(i / 6, i % 6, true), 1);
            due.is(name + " shut", x.door(i / 6, i % 6, false), 1);
            due.is(name + " opened again", x.door(i / 6, i % 6, true), 0);
        }
        for (int i = 0; i < 36; i++) {
            if (i / 6 != i % 6) due.is("door " + i / 6 + i % 6 + " stayed", x.door(i / 6, i % 6, true), 1);
        }
    }

    private static void exitMadeAndTakenBack() {
        due.sentence("Promise 3", "Makes a place an exit or not.");
        for (int place = 0; place < 6; place++) {
            int guard = (place + 1) % 6;
            ChaseTable x = new ChaseTable(3);
            x.set(guard, guard, place, false);
            x.exit(place, true);
            due.is("the thief is out at " + place, x.outcome(guard, guard, place, false), 2);
            due.is("play(12) when out", x.play(12), -2);
            due.is("total(THIEF)", x.total(2), 50);
            x.exit(place, false);
            due.is("the thief is in again", x.outcome(guard, guard, place, false), 0);
            due.is("total(THIEF)", x.total(2), 0);
            due.is("play(12)", x.play(12), 0);
        }
    }

    private static void exitRefusesPlaces() {
        due.sentence("Promise 3", "Not in 0 to 5: BAD_PLACE");
        ChaseTable x = new ChaseTable(0);
        for (int wrong : Edges.NO_PLACES) {
            due.is("exit(" + wrong + ", true)", x.exit(wrong, true), -1);
            due.is("exit(" + wrong + ", true) again", x.exit(wrong, true), -1);
            due.is("exit(" + wrong + ", false)", x.exit(wrong, false), -1);
        }
    }

    private static void exitRefusedChangesNothing() {
        due.sentence("Promise 3", "Not in 0 to 5: BAD_PLACE, nothing changes.");
        for (int kind = 0; kind < 3; kind++) {
            for (int on = 0; on < 2; on++) {
                ChaseTable x = Edges.sample(kind);
                for (int wrong : Edges.NO_PLACES) x.exit(wrong, on == 1);
                Edges.sameState(due, "after refused exits, map " + kind + ", on " + on, x, Edges.sample(kind));
            }
        }
    }

    private static void exitAnswers() {
        due.sentence("Promise 3", "Else answers 1 if it was an exit before, 0 if not.");
        ChaseTable x = new ChaseTable(0);
        for (int place = 0; place < 6; place++) {
            due.is("exit " + place + " taken back when none", x.exit(place, false), 0);
            due.is("exit " + place + " made", x.exit(place, true), 0);
            due.is("exit " + place + " made when made", x.exit(place, true), 1);
            due.is("exit " + place + " taken back", x.exit(place, false), 1);
            due.is("exit " + place + " made again", x.exit(place, true), 0);
        }
        for (int place = 0; place < 6; place++) due.is("exit " + place + " stayed", x.exit(place, true), 1);
    }

    /** Guards to move catch the thief at once; he can run once, if he has the move. */
    private static void allDoorsOpen() {
        due.sentence("Promise 2", "Opens or shuts the door from one place to another.", "all thirty");
        for (int waits = 0; waits < 4; waits++) {
            ChaseTable x = Edges.allDoors(waits, "");
            due.is("total(GUARDS)", x.total(1), 432);
            due.is("longest(GUARDS)", x.longest(1), 2);
            due.is("best()", x.best(), 5);
            due.is("length(0, 1, 5, true)", x.length(0, 1, 5, true), 2);
            x.set(0, 1, 5, true);
            due.is("best() of the thief", x.best(), 2);
            for (int i = 0; i < 36; i++) x.door(i / 6, i % 6, false);
            x.set(0, 1, 5, false);
            Edges.sameState(due, "all shut again, waits " + waits, x, new ChaseTable(waits));
        }
    }

    private static void allPlacesExits() {
        due.sentence("Promise 3", "Makes a place an exit or not.", "all six");
        for (int waits = 0; waits < 4; waits++) {
            ChaseTable x = Edges.map(waits, "", "0 1 2 3 4 5");
            due.is("total(GUARDS)", x.total(1), 132);
            due.is("total(THIEF)", x.total(2), 300);
            due.is("longest(THIEF)", x.longest(2), 0);
            for (int i = 0; i < 6; i++) x.exit(i, false);
            Edges.sameState(due, "no exits again, waits " + waits, x, new ChaseTable(waits));
        }
    }
}
