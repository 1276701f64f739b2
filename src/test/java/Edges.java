/** Numbers at and beyond the document's bounds, and maps: empty, full, and written down as text. */
final class Edges {
    /**
     * Next to the places, far from them, and such as become a place when cut to a byte or a short, or a right index
     * when multiplied by 6, 8, 36 or 64 with wrap-around.
     */
    static final int[] NO_PLACES = {
        -1, 6, 7, -6, -5, 36, 216, 256, -256, 65536, 1 << 26, 1 << 29, 1 << 30, -(1 << 30), 715827883, 119304648,
        Integer.MIN_VALUE, Integer.MIN_VALUE + 5, Integer.MAX_VALUE};
    static final int[] NO_CODES = {
        -1, -5, -6, -12, 13, 14, 17, 18, 24, 256, 268, -244, 65536, 65548, 1 << 30, Integer.MIN_VALUE,
        Integer.MIN_VALUE + 12, Integer.MAX_VALUE};
    static final int[] NO_SIDES = {-1, -2, -3, 3, 4, 256, 257, 65538, Integer.MIN_VALUE, Integer.MIN_VALUE + 1,
        Integer.MAX_VALUE};

    private Edges() {
    }

    /** A map from its doors, such as "01 25" for 0 to 1 and 2 to 5, and its exits, such as "3 4". */
    static ChaseTable map(int waits, String doors, String exits) {
        ChaseTable x = new ChaseTable(waits);
        for (String door : doors.split(" ")) {
            if (!door.isEmpty()) x.door(door.charAt(0) - '0', door.charAt(1) - '0', true);
        }
        for (String place : exits.split(" ")) {
            if (!place.isEmpty()) x.exit(place.charAt(0) - '0', true);
        }
        return x;
    }

    static ChaseTable allDoors(int waits, String exits) {
        StringBuilder doors = new StringBuilder();
        for (int i = 0; i < 36; i++) {
            if (i / 6 != i % 6) doors.append(i / 6).append(i % 6).append(' ');
        }
        return map(waits, doors.toString(), exits);
    }

    /** Three maps, 0 to 2, with something on the board: empty, some of everything, full. */
    static ChaseTable sample(int kind) {
        if (kind == 0) return new ChaseTable(0);
        ChaseTable x = kind == 1 ? map(1, "01 12 25 50 34 43 40 05", "3") : allDoors(3, "0 1 2 3 4 5");
        x.set(2, 4, 0, kind == 1);
        return x;
    }

    /** Asks two objects for all that they hold, in 47 calls each; both have an empty map afterwards. */
    static void sameState(Due due, String when, ChaseTable x, ChaseTable twin) {
        due.is(when + ": board()", x.board(), twin.board());
        due.is(when + ": best()", x.best(), twin.best());
        for (int who = 0; who < 3; who++) {
            due.is(when + ": total(" + who + ")", x.total(who), twin.total(who));
            due.is(when + ": longest(" + who + ")", x.longest(who), twin.longest(who));
        }
        for (int i = 0; i < 36; i++) {
            if (i / 6 == i % 6) continue;
            due.is(when + ": door " + i / 6 + i % 6, x.door(i / 6, i % 6, false), twin.door(i / 6, i % 6, false));
        }
        for (int i = 0; i < 6; i++) due.is(when + ": exit " + i, x.exit(i, false), twin.exit(i, false));
        // On an empty map the totals tell who may wait.
        for (int who = 0; who < 3; who++) {
            due.is(when + ": total(" + who + ") on the empty map", x.total(who), twin.total(who));
        }
    }

    /** What board() answers for a position. */
    static int board(int a, int b, int t, boolean thiefMoves) {
        return a + 8 * b + 64 * t + (thiefMoves ? 512 : 0);
    }
}
