import java.util.TreeMap;

/**
 * The document read literally and slowly, to compare with: positions are strings, and outcomes and lengths are worked
 * out anew for each map by using the rules for "wins" and "loses" on the whole table until nothing changes.
 */
final class Model {
    private final boolean guardsWait;
    private final boolean thiefWaits;
    private final boolean[][] door = new boolean[6][6];
    private final boolean[] exit = new boolean[6];
    private String board = name(0, 1, 5, false);
    /** Winner and length of each position that somebody wins. */
    private TreeMap<String, int[]> won = null;

    Model(int waits) {
        guardsWait = (waits & 1) != 0;
        thiefWaits = (waits & 2) != 0;
    }

    int door(int from, int to, boolean open) {
        if (from < 0 || from > 5 || to < 0 || to > 5) return -1;
        if (from == to) return -2;
        int before = door[from][to] ? 1 : 0;
        door[from][to] = open;
        won = null;
        return before;
    }

    int exit(int place, boolean on) {
        if (place < 0 || place > 5) return -1;
        int before = exit[place] ? 1 : 0;
        exit[place] = on;
        won = null;
        return before;
    }

    int set(int a, int b, int t, boolean thiefMoves) {
        if (bad(a, b, t)) return -1;
        board = name(a, b, t, thiefMoves);
        return 0;
    }

    int play(int code) {
        String next = moves(board).get(code);
        if (next == null) return -2;
        board = next;
        return 0;
    }

    int board() {
        return place(board, 0) + 8 * place(board, 1) + 64 * place(board, 2) + (thief(board) ? 512 : 0);
    }

    int outcome(int a, int b, int t, boolean thiefMoves) {
        return bad(a, b, t) ? -1 : winner(name(a, b, t, thiefMoves));
    }

    int length(int a, int b, int t, boolean thiefMoves) {
        return bad(a, b, t) ? -1 : length(name(a, b, t, thiefMoves));
    }

    int best() {
        for (var move : moves(board).entrySet()) {
            boolean same = winner(move.getValue()) == winner(board);
            if (same && (winner(board) == 0 || length(move.getValue()) == length(board) - 1)) return move.getKey();
        }
        return -2;
    }

    int total(int who) {
        if (who == 0) return 432 - table().size();
        int count = 0;
        for (int[] entry : table().values()) if (entry[0] == who) count++;
        return count;
    }

    int longest(int who) {
        int most = -3;
        for (int[] entry : table().values()) if (entry[0] == who) most = Math.max(most, entry[1]);
        return most;
    }

    private static boolean bad(int a, int b, int t) {
        return a < 0 || a > 5 || b < 0 || b > 5 || t < 0 || t > 5;
    }

    private static String name(int a, int b, int t, boolean thiefMoves) {
        return "" + a + b + t + (thiefMoves ? "T" : "G");
    }

    private static int place(String position, int index) {
        return position.charAt(index) - '0';
    }

    private static boolean thief(String position) {
        return position.charAt(3) == 'T';
    }

    private int wonWhenOver(String position) {
        int t = place(position, 2);
        if (t == place(position, 0) || t == place(position, 1)) return 1;
        return exit[t] ? 2 : 0;
    }

    private TreeMap<Integer, String> moves(String position) {
        TreeMap<Integer, String> found = new TreeMap<>();
        if (wonWhenOver(position) != 0) return found;
        int a = place(position, 0);
        int b = place(position, 1);
        int t = place(position, 2);
        for (int x = 0; x < 6; x++) {
            if (thief(position)) {
                if (door[t][x]) found.put(x, name(a, b, x, false));
            } else {
                if (door[a][x]) found.put(x, name(x, b, t, true));
                if (door[b][x]) found.put(6 + x, name(a, x, t, true));
            }
        }
        if (thief(position) ? thiefWaits : guardsWait) found.put(12, name(a, b, t, !thief(position)));
        return found;
    }

    private int winner(String position) {
        int[] entry = table().get(position);
        return entry == null ? 0 : entry[0];
    }

    private int length(String position) {
        int[] entry = table().get(position);
        return entry == null ? -3 : entry[1];
    }

    private TreeMap<String, int[]> table() {
        if (won == null) {
            won = new TreeMap<>();
            TreeMap<String, int[]> next = step();
            while (!same(won, next)) {
                won = next;
                next = step();
            }
        }
        return won;
    }

    private TreeMap<String, int[]> step() {
        TreeMap<String, int[]> next = new TreeMap<>();
        for (int i = 0; i < 432; i++) {
            String position = name(i / 72, i / 12 % 6, i / 2 % 6, i % 2 == 1);
            int[] entry = follows(position);
            if (entry != null) next.put(position, entry);
        }
        return next;
    }

    private int[] follows(String position) {
        int side = thief(position) ? 2 : 1;
        if (wonWhenOver(position) != 0) return new int[] {wonWhenOver(position), 0};
        int least = Integer.MAX_VALUE;
        int greatest = -1;
        boolean allLost = true;
        for (String reached : moves(position).values()) {
            int[] entry = won.get(reached);
            if (entry == null) {
                allLost = false;
            } else if (entry[0] == side) {
                least = Math.min(least, entry[1]);
            } else {
                greatest = Math.max(greatest, entry[1]);
            }
        }
        if (least != Integer.MAX_VALUE) return new int[] {side, 1 + least};
        return allLost ? new int[] {3 - side, 1 + greatest} : null;
    }

    private static boolean same(TreeMap<String, int[]> one, TreeMap<String, int[]> other) {
        if (!one.keySet().equals(other.keySet())) return false;
        for (String position : one.keySet()) {
            if (!java.util.Arrays.equals(one.get(position), other.get(position))) return false;
        }
        return true;
    }
}
