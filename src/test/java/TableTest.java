/**
 * Promises 7 to 11: the whole table of many maps against the document's own equations. Lengths fall along the moves
 * that the equations name, so only the right table can fulfil them everywhere, whoever worked it out.
 */
public final class TableTest {
    private static final Due due = new Due();
    private static final int MAPS = 400;

    public static void main(String[] args) {
        Numbers numbers = new Numbers(432);
        for (int map = 0; map < MAPS; map++) {
            boolean[] door = new boolean[36];
            boolean[] exit = new boolean[6];
            int density = 2 + numbers.below(5);
            for (int i = 0; i < 36; i++) door[i] = i / 6 != i % 6 && numbers.oneIn(density);
            for (int i = 0; i < 6; i++) exit[i] = numbers.oneIn(7);
            new TableTest("map " + map, map % 4, door, exit).check();
        }
        due.end();
    }

    private final String name;
    private final int waits;
    private final boolean[] door;
    private final boolean[] exit;
    private final int[] winner = new int[432];
    private final int[] length = new int[432];

    private TableTest(String name, int waits, boolean[] door, boolean[] exit) {
        this.name = name;
        this.waits = waits;
        this.door = door;
        this.exit = exit;
    }

    private ChaseTable make() {
        ChaseTable x = new ChaseTable(waits);
        for (int i = 0; i < 36; i++) if (door[i]) x.door(i / 6, i % 6, true);
        for (int i = 0; i < 6; i++) if (exit[i]) x.exit(i, true);
        return x;
    }

    /** Several objects share the asking, for each is good for 512 calls. */
    private void check() {
        ChaseTable outcomes = make();
        ChaseTable lengths = make();
        for (int p = 0; p < 432; p++) {
            winner[p] = outcomes.outcome(p / 72, p / 12 % 6, p / 2 % 6, p % 2 == 1);
            length[p] = lengths.length(p / 72, p / 12 % 6, p / 2 % 6, p % 2 == 1);
        }
        ChaseTable boards = make();
        for (int p = 0; p < 432; p++) {
            if (p % 216 == 0) boards = make();
            checkPosition(p, boards);
        }
        for (int who = -1; who < 4; who++) checkSums(who, boards);
    }

    private void checkPosition(int p, ChaseTable boards) {
        int a = p / 72;
        int b = p / 12 % 6;
        int t = p / 2 % 6;
        String at = name + ", (" + a + ", " + b + ", " + t + ", " + (p % 2 == 1) + "): ";
        boards.set(a, b, t, p % 2 == 1);
        int best = boards.best();
        if (t == a || t == b || exit[t]) {
            due.is(at + "outcome when over", winner[p], t == a || t == b ? 1 : 2);
            due.is(at + "length when over", length[p], 0);
            due.is(at + "best() when over", best, -2);
            return;
        }
        int side = p % 2 == 1 ? 2 : 1;
        int least = Integer.MAX_VALUE;
        int greatest = -1;
        int undecided = 0;
        for (int code = 0; code < 13; code++) {
            int next = after(p, code);
            if (next < 0) continue;
            if (winner[next] == side) least = Math.min(least, length[next]);
            else if (winner[next] == 0) undecided++;
            else greatest = Math.max(greatest, length[next]);
        }
        boolean wins = least != Integer.MAX_VALUE;
        boolean open = !wins && undecided > 0;
        due.is(at + "outcome", winner[p], wins ? side : open ? 0 : 3 - side);
        due.is(at + "length", length[p], wins ? 1 + least : open ? -3 : 1 + greatest);
        due.is(at + "best()", best, bestOf(p));
    }

    private int bestOf(int p) {
        for (int code = 0; code < 13; code++) {
            int next = after(p, code);
            if (next < 0 || winner[next] != winner[p]) continue;
            if (winner[p] == 0 || length[next] == length[p] - 1) return code;
        }
        return -2;
    }

    private int after(int p, int code) {
        boolean thief = p % 2 == 1;
        int turned = thief ? p - 1 : p + 1;
        if (code == 12) return (waits & (thief ? 2 : 1)) != 0 ? turned : -1;
        if (thief && code > 5) return -1;
        int weight = thief ? 2 : code < 6 ? 72 : 12;
        int from = p / weight % 6;
        return door[from * 6 + code % 6] ? turned + (code % 6 - from) * weight : -1;
    }

    private void checkSums(int who, ChaseTable x) {
        int count = 0;
        int most = -3;
        for (int p = 0; p < 432; p++) {
            if (winner[p] != who) continue;
            count++;
            most = Math.max(most, length[p]);
        }
        due.is(name + ": total(" + who + ")", x.total(who), count);
        due.is(name + ": longest(" + who + ")", x.longest(who), who == 1 || who == 2 ? most : -3);
    }
}
