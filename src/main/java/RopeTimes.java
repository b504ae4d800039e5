/**
 * A windmill's timetable: turns of the mill are tied to each other by ropes,
 * each of which tells by how many minutes at most one turn comes behind another.
 */
public final class RopeTimes {
    private static final int MOST_TURNS = 12;
    private static final int MOST_ROPES = 30;
    private static final int LONGEST = 99;
    private static final int LAST_END = 9999;
    private static final int NO_BOUND = 99999;
    private static final int NONE = -1;
    private static final int ABOUT_KINDS = 3;
    private static final int TOLD_KINDS = 5;
    private static final int COUNT_KINDS = 7;

    private int turnCount;
    private int ropeCount;
    private final int[] from;
    private final int[] to;
    private final int[] length;
    private final boolean[] tied;

    // What follows from the ropes: kept up to date by settle() after every change.
    private int rounds;
    private final int[] earliest;
    private final int[] bound;

    // Rows for passing results only: nothing in them outlives a call.
    private final int[] trial;
    private final int[] reach;
    private final int[] nextReach;

    public RopeTimes() {
        from = new int[MOST_ROPES];
        to = new int[MOST_ROPES];
        length = new int[MOST_ROPES];
        tied = new boolean[MOST_ROPES];
        earliest = new int[MOST_TURNS];
        bound = new int[MOST_TURNS * MOST_TURNS];
        trial = new int[MOST_TURNS];
        reach = new int[MOST_TURNS];
        nextReach = new int[MOST_TURNS];
        settle();
    }

    // ---- turns and ropes

    public int turn() throws IllegalStateException {
        if (turnCount >= MOST_TURNS) {
            throw new IllegalStateException("there are 12 turns");
        }
        int number = turnCount;
        turnCount++;
        settle();
        return number;
    }

    public int tie(int a, int b, int w)
            throws IndexOutOfBoundsException, IllegalArgumentException, IllegalStateException {
        checkTurn(a);
        checkTurn(b);
        checkTwoTurns(a, b);
        checkLength(w);
        if (ropeCount >= MOST_ROPES) {
            throw new IllegalStateException("30 ropes were tied");
        }
        int number = ropeCount;
        from[number] = a;
        to[number] = b;
        length[number] = w;
        tied[number] = true;
        ropeCount++;
        settle();
        return number;
    }

    public int cut(int rope, int w) throws IndexOutOfBoundsException, IllegalArgumentException {
        checkRope(rope);
        checkLength(w);
        int before = length[rope];
        length[rope] = w;
        settle();
        return before;
    }

    public boolean knot(int rope) throws IndexOutOfBoundsException {
        checkRope(rope);
        tied[rope] = !tied[rope];
        settle();
        return tied[rope];
    }

    public int tighten() {
        if (!isPossible()) {
            return 0;
        }
        int shorter = 0;
        for (int rope = 0; rope < ropeCount; rope++) {
            if (tied[rope]) {
                shorter += tightenOne(rope);
            }
        }
        return shorter;
    }

    // ---- what there is

    public int told(int rope, int what) throws IndexOutOfBoundsException {
        checkRope(rope);
        checkKind(what, TOLD_KINDS);
        switch (what) {
            case 0:
                return from[rope];
            case 1:
                return to[rope];
            case 2:
                return length[rope];
            case 3:
                return tied[rope] ? 1 : 0;
            default:
                return isTight(rope) ? 1 : 0;
        }
    }

    public int about(int turn, int what) throws IndexOutOfBoundsException {
        checkTurn(turn);
        checkKind(what, ABOUT_KINDS);
        switch (what) {
            case 0:
                return tiedEndsAt(turn, from);
            case 1:
                return tiedEndsAt(turn, to);
            default:
                return isPossible() ? earliest[turn] : NONE;
        }
    }

    public int count(int what) throws IndexOutOfBoundsException {
        checkKind(what, COUNT_KINDS);
        switch (what) {
            case 0:
                return turnCount;
            case 1:
                return ropeCount;
            case 2:
                return tiedRopes();
            case 3:
                return rounds;
            case 4:
                return isPossible() ? lastOf(earliest) : NONE;
            case 5:
                return tightRopes();
            default:
                return isPossible() ? 0 : shortRingLength();
        }
    }

    public boolean holds() {
        return isPossible();
    }

    // ---- what can be

    public int late(int turn, int end)
            throws IndexOutOfBoundsException, IllegalArgumentException, IllegalStateException {
        checkTurn(turn);
        if (end < 0 || end > LAST_END) {
            throw new IllegalArgumentException("the end is not 0 to 9999");
        }
        checkPossible();
        if (lastOf(earliest) > end) {
            throw new IllegalStateException("no timetable is over by then");
        }
        int latest = end;
        for (int other = 0; other < turnCount; other++) {
            int behind = boundFrom(other, turn);
            if (behind != NO_BOUND) {
                latest = Math.min(latest, end + behind);
            }
        }
        return latest;
    }

    public int most(int a, int b) throws IndexOutOfBoundsException, IllegalStateException {
        checkTurn(a);
        checkTurn(b);
        checkPossible();
        return boundFrom(a, b);
    }

    public int room(int rope) throws IndexOutOfBoundsException, IllegalStateException {
        checkRope(rope);
        if (!tied[rope]) {
            throw new IllegalStateException("the rope is not tied");
        }
        checkPossible();
        return leastLength(from[rope], to[rope]);
    }

    public boolean would(int a, int b, int w) throws IndexOutOfBoundsException, IllegalArgumentException {
        checkTurn(a);
        checkTurn(b);
        checkTwoTurns(a, b);
        checkLength(w);
        return isPossible() && w >= leastLength(a, b);
    }

    public int at(int place) throws IndexOutOfBoundsException, IllegalStateException {
        if (place < 0 || place >= turnCount) {
            throw new IndexOutOfBoundsException("there is no such place");
        }
        checkPossible();
        for (int turn = 0; turn < turnCount; turn++) {
            if (turnsAheadOf(turn) == place) {
                return turn;
            }
        }
        return NONE;
    }

    public int advise() {
        int best = NONE;
        int least = isPossible() ? lastOf(earliest) : NO_BOUND;
        for (int rope = 0; rope < ropeCount; rope++) {
            if (tied[rope] && findEarliest(trial, rope) != NONE) {
                int last = lastOf(trial);
                if (last < least) {
                    least = last;
                    best = rope;
                }
            }
        }
        return best;
    }

    public double mean() {
        if (turnCount == 0 || !isPossible()) {
            return 0.0;
        }
        int sum = 0;
        for (int turn = 0; turn < turnCount; turn++) {
            sum += earliest[turn];
        }
        return (double) sum / turnCount;
    }

    public long digest() {
        long d = 1553;
        for (int what = 0; what < COUNT_KINDS; what++) {
            d = d * 31 + count(what);
        }
        for (int turn = 0; turn < turnCount; turn++) {
            for (int what = 0; what < ABOUT_KINDS; what++) {
                d = d * 31 + about(turn, what);
            }
        }
        for (int rope = 0; rope < ropeCount; rope++) {
            for (int what = 0; what < TOLD_KINDS; what++) {
                d = d * 31 + told(rope, what);
            }
        }
        return isPossible() ? digestBounds(d) : d;
    }

    private long digestBounds(long start) {
        long d = start;
        for (int a = 0; a < turnCount; a++) {
            for (int b = 0; b < turnCount; b++) {
                d = d * 31 + boundFrom(a, b);
            }
        }
        return d;
    }

    // ---- tests of what a caller gives

    private void checkTurn(int turn) {
        if (turn < 0 || turn >= turnCount) {
            throw new IndexOutOfBoundsException("there is no such turn");
        }
    }

    private void checkRope(int rope) {
        if (rope < 0 || rope >= ropeCount) {
            throw new IndexOutOfBoundsException("there is no such rope");
        }
    }

    private static void checkKind(int what, int kinds) {
        if (what < 0 || what >= kinds) {
            throw new IndexOutOfBoundsException("there is nothing of this number");
        }
    }

    private static void checkTwoTurns(int a, int b) {
        if (a == b) {
            throw new IllegalArgumentException("both turns are the same");
        }
    }

    private static void checkLength(int w) {
        if (w < -LONGEST || w > LONGEST) {
            throw new IllegalArgumentException("the length is not -99 to 99");
        }
    }

    private void checkPossible() {
        if (!isPossible()) {
            throw new IllegalStateException("there is no timetable");
        }
    }

    // ---- the earliest timetable

    private boolean isPossible() {
        return rounds != NONE;
    }

    private void settle() {
        rounds = findEarliest(earliest, NONE);
        // Without a timetable a way gets less and less with every ring, so there is nothing to find.
        if (isPossible()) {
            findBounds();
        }
    }

    /** Fills in the earliest times without the rope left out, and tells the rounds, or NONE. */
    private int findEarliest(int[] times, int leftOut) {
        for (int turn = 0; turn < turnCount; turn++) {
            times[turn] = 0;
        }
        for (int round = 0; round <= turnCount; round++) {
            if (!pushOnce(times, leftOut)) {
                return round + 1;
            }
        }
        return NONE;
    }

    private boolean pushOnce(int[] times, int leftOut) {
        boolean changed = false;
        for (int rope = 0; rope < ropeCount; rope++) {
            if (tied[rope] && rope != leftOut) {
                int needed = times[to[rope]] - length[rope];
                if (times[from[rope]] < needed) {
                    times[from[rope]] = needed;
                    changed = true;
                }
            }
        }
        return changed;
    }

    private int lastOf(int[] times) {
        int last = 0;
        for (int turn = 0; turn < turnCount; turn++) {
            last = Math.max(last, times[turn]);
        }
        return last;
    }

    private int turnsAheadOf(int turn) {
        int ahead = 0;
        for (int other = 0; other < turnCount; other++) {
            boolean sooner = earliest[other] < earliest[turn];
            if (sooner || (earliest[other] == earliest[turn] && other < turn)) {
                ahead++;
            }
        }
        return ahead;
    }

    // ---- ropes

    private int tiedRopes() {
        int ropes = 0;
        for (int rope = 0; rope < ropeCount; rope++) {
            if (tied[rope]) {
                ropes++;
            }
        }
        return ropes;
    }

    private int tiedEndsAt(int turn, int[] ends) {
        int ropes = 0;
        for (int rope = 0; rope < ropeCount; rope++) {
            if (tied[rope] && ends[rope] == turn) {
                ropes++;
            }
        }
        return ropes;
    }

    private boolean isTight(int rope) {
        return isPossible() && tied[rope]
                && earliest[to[rope]] == earliest[from[rope]] + length[rope];
    }

    private int tightRopes() {
        int ropes = 0;
        for (int rope = 0; rope < ropeCount; rope++) {
            if (isTight(rope)) {
                ropes++;
            }
        }
        return ropes;
    }

    private int tightenOne(int rope) {
        int shorter = length[rope] - leastLength(from[rope], to[rope]);
        if (shorter > 0) {
            length[rope] -= shorter;
            // The ropes behind this one are tightened by what it leaves them.
            settle();
        }
        return shorter;
    }

    // ---- longest differences

    private int boundFrom(int a, int b) {
        return bound[a * MOST_TURNS + b];
    }

    private void shortenBound(int a, int b, int w) {
        int place = a * MOST_TURNS + b;
        bound[place] = Math.min(bound[place], w);
    }

    private void findBounds() {
        startBounds();
        for (int middle = 0; middle < turnCount; middle++) {
            for (int a = 0; a < turnCount; a++) {
                if (boundFrom(a, middle) != NO_BOUND) {
                    goOnOver(a, middle);
                }
            }
        }
    }

    private void startBounds() {
        for (int a = 0; a < turnCount; a++) {
            for (int b = 0; b < turnCount; b++) {
                bound[a * MOST_TURNS + b] = a == b ? 0 : NO_BOUND;
            }
        }
        for (int rope = 0; rope < ropeCount; rope++) {
            if (tied[rope]) {
                shortenBound(from[rope], to[rope], length[rope]);
            }
        }
    }

    private void goOnOver(int a, int middle) {
        int first = boundFrom(a, middle);
        for (int b = 0; b < turnCount; b++) {
            int second = boundFrom(middle, b);
            if (second != NO_BOUND) {
                shortenBound(a, b, first + second);
            }
        }
    }

    /** The least length of a rope from a to b, -99 or more, with which the timetable stays possible. */
    private int leastLength(int a, int b) {
        // With a timetable, the least way from b back to a never takes the rope from a to b itself.
        int back = boundFrom(b, a);
        return back == NO_BOUND ? -LONGEST : Math.max(-LONGEST, -back);
    }

    // ---- short rings

    /** The fewest ropes of any short ring, 0 without any. */
    private int shortRingLength() {
        int fewest = 0;
        for (int start = 0; start < turnCount; start++) {
            int ropes = shortRingFrom(start);
            if (ropes != 0 && (fewest == 0 || ropes < fewest)) {
                fewest = ropes;
            }
        }
        return fewest;
    }

    /**
     * The fewest ropes of any way from a turn back to it with a sum less than 0, 0 without any.
     * Such a way may meet a turn twice; then a ring in it is short as well and has fewer ropes,
     * and is found from a turn of its own.
     */
    private int shortRingFrom(int start) {
        for (int turn = 0; turn < turnCount; turn++) {
            reach[turn] = NO_BOUND;
        }
        reach[start] = 0;
        for (int ropes = 1; ropes <= turnCount; ropes++) {
            goOneRope();
            if (reach[start] < 0) {
                return ropes;
            }
        }
        return 0;
    }

    private void goOneRope() {
        for (int turn = 0; turn < turnCount; turn++) {
            nextReach[turn] = NO_BOUND;
        }
        for (int rope = 0; rope < ropeCount; rope++) {
            if (tied[rope] && reach[from[rope]] != NO_BOUND) {
                int sum = reach[from[rope]] + length[rope];
                nextReach[to[rope]] = Math.min(nextReach[to[rope]], sum);
            }
        }
        for (int turn = 0; turn < turnCount; turn++) {
            reach[turn] = nextReach[turn];
        }
    }
}
