/** A chase on a small map, played perfectly. */
public final class ChaseTable {
    public static final int NOBODY = 0;
    public static final int GUARDS = 1;
    public static final int THIEF = 2;
    public static final int BAD_PLACE = -1;
    public static final int BAD_MOVE = -2;
    public static final int FOREVER = -3;

    private static final int PLACES = 6;
    private static final int DOORS = 36;
    private static final int WAIT = 12;

    // A position's number is a + 6 * b + 36 * t, and 216 more if the thief is to move.
    private static final int A_UNIT = 1;
    private static final int B_UNIT = 6;
    private static final int T_UNIT = 36;
    private static final int THIEF_TO_MOVE = 216;
    private static final int POSITIONS = 432;
    private static final int NO_POSITION = -1;

    private final boolean guardsWait;
    private final boolean thiefWaits;
    private final boolean[] doors = new boolean[DOORS];
    private final boolean[] exits = new boolean[PLACES];

    // Both tables always belong to the present doors and exits, so that asking changes nothing.
    private final int[] winners = new int[POSITIONS];
    private final int[] lengths = new int[POSITIONS];

    private int current;

    public ChaseTable(int waits) {
        guardsWait = (waits & 1) != 0;
        thiefWaits = (waits & 2) != 0;
        current = numberOf(0, 1, 5, false);
        solve();
    }

    public int door(int from, int to, boolean open) {
        if (!isPlace(from) || !isPlace(to)) {
            return BAD_PLACE;
        }
        if (from == to) {
            return BAD_MOVE;
        }
        int index = from * PLACES + to;
        int before = doors[index] ? 1 : 0;
        doors[index] = open;
        solve();
        return before;
    }

    public int exit(int place, boolean on) {
        if (!isPlace(place)) {
            return BAD_PLACE;
        }
        int before = exits[place] ? 1 : 0;
        exits[place] = on;
        solve();
        return before;
    }

    public int set(int a, int b, int t, boolean thiefMoves) {
        if (!arePlaces(a, b, t)) {
            return BAD_PLACE;
        }
        current = numberOf(a, b, t, thiefMoves);
        return 0;
    }

    public int play(int code) {
        if (winnerIfOver(current) != NOBODY) {
            return BAD_MOVE;
        }
        int next = positionAfter(current, code);
        if (next == NO_POSITION) {
            return BAD_MOVE;
        }
        current = next;
        return 0;
    }

    public int board() {
        int places = placeOfA(current) + 8 * placeOfB(current) + 64 * placeOfThief(current);
        return thiefIsToMove(current) ? places + 512 : places;
    }

    public int outcome(int a, int b, int t, boolean thiefMoves) {
        if (!arePlaces(a, b, t)) {
            return BAD_PLACE;
        }
        return winners[numberOf(a, b, t, thiefMoves)];
    }

    public int length(int a, int b, int t, boolean thiefMoves) {
        if (!arePlaces(a, b, t)) {
            return BAD_PLACE;
        }
        return lengths[numberOf(a, b, t, thiefMoves)];
    }

    public int best() {
        if (winnerIfOver(current) != NOBODY) {
            return BAD_MOVE;
        }
        for (int code = 0; code <= WAIT; code++) {
            int next = positionAfter(current, code);
            if (next != NO_POSITION && keepsToTable(current, next)) {
                return code;
            }
        }
        return BAD_MOVE;
    }

    public int total(int who) {
        int count = 0;
        for (int position = 0; position < POSITIONS; position++) {
            if (winners[position] == who) {
                count++;
            }
        }
        return count;
    }

    public int longest(int who) {
        // FOREVER is below every length, and is what the positions that nobody wins have.
        int greatest = FOREVER;
        for (int position = 0; position < POSITIONS; position++) {
            if (winners[position] == who && lengths[position] > greatest) {
                greatest = lengths[position];
            }
        }
        return greatest;
    }

    private static boolean isPlace(int place) {
        return place >= 0 && place < PLACES;
    }

    private static boolean arePlaces(int a, int b, int t) {
        return isPlace(a) && isPlace(b) && isPlace(t);
    }

    private static int numberOf(int a, int b, int t, boolean thiefMoves) {
        int number = A_UNIT * a + B_UNIT * b + T_UNIT * t;
        return thiefMoves ? number + THIEF_TO_MOVE : number;
    }

    private static int placeOfA(int position) {
        return position / A_UNIT % PLACES;
    }

    private static int placeOfB(int position) {
        return position / B_UNIT % PLACES;
    }

    private static int placeOfThief(int position) {
        return position / T_UNIT % PLACES;
    }

    private static boolean thiefIsToMove(int position) {
        return position >= THIEF_TO_MOVE;
    }

    /** Who has won a position that is over; NOBODY if it is not over. */
    private int winnerIfOver(int position) {
        int t = placeOfThief(position);
        if (t == placeOfA(position) || t == placeOfB(position)) {
            return GUARDS;
        }
        return exits[t] ? THIEF : NOBODY;
    }

    /** The position that a move leads to from one that is not over; NO_POSITION if the code is no move there. */
    private int positionAfter(int position, int code) {
        boolean thiefMoves = thiefIsToMove(position);
        int lastDoorCode = thiefMoves ? PLACES - 1 : 2 * PLACES - 1;
        int turned = thiefMoves ? position - THIEF_TO_MOVE : position + THIEF_TO_MOVE;
        if (code == WAIT) {
            boolean mayWait = thiefMoves ? thiefWaits : guardsWait;
            return mayWait ? turned : NO_POSITION;
        }
        if (code < 0 || code > lastDoorCode) {
            return NO_POSITION;
        }
        int guardUnit = code < PLACES ? A_UNIT : B_UNIT;
        int unit = thiefMoves ? T_UNIT : guardUnit;
        int from = position / unit % PLACES;
        int to = code % PLACES;
        return doors[from * PLACES + to] ? turned + (to - from) * unit : NO_POSITION;
    }

    /** Whether a move from one position to the other keeps the outcome and, if somebody wins, the pace. */
    private boolean keepsToTable(int position, int next) {
        if (winners[next] != winners[position]) {
            return false;
        }
        return winners[position] == NOBODY || lengths[next] == lengths[position] - 1;
    }

    /**
     * Fills both tables, a round for each length. A position of some length has a move to one whose length is one
     * less, so the first round after round 0 that finds nothing is the last; and at most 432 rounds find something.
     */
    private void solve() {
        settleThoseOver();
        settleRound(0);
        boolean found = true;
        for (int round = 1; found && round <= POSITIONS; round++) {
            found = settleRound(round);
        }
    }

    private void settleThoseOver() {
        for (int position = 0; position < POSITIONS; position++) {
            int winner = winnerIfOver(position);
            winners[position] = winner;
            lengths[position] = winner == NOBODY ? FOREVER : 0;
        }
    }

    private boolean settleRound(int round) {
        boolean found = false;
        for (int position = 0; position < POSITIONS; position++) {
            if (winners[position] != NOBODY) {
                continue;
            }
            int winner = winnerInRound(position, round);
            if (winner != NOBODY) {
                winners[position] = winner;
                lengths[position] = round;
                found = true;
            }
        }
        return found;
    }

    /**
     * Who wins a position by what earlier rounds settled; NOBODY if nothing follows yet. What this same round settled
     * does not count, or lengths would come out too small. In round 0 that leaves the positions without a move.
     */
    private int winnerInRound(int position, int round) {
        int mover = thiefIsToMove(position) ? THIEF : GUARDS;
        boolean open = false;
        for (int code = 0; code <= WAIT; code++) {
            int next = positionAfter(position, code);
            if (next == NO_POSITION) {
                continue;
            }
            if (winners[next] == NOBODY || lengths[next] >= round) {
                open = true;
            } else if (winners[next] == mover) {
                return mover;
            }
        }
        if (open) {
            return NOBODY;
        }
        return mover == THIEF ? GUARDS : THIEF;
    }
}
