import java.util.Arrays;

/**
 * Small mills against the words of the document alone: all times up to a last minute are tried, and those by
 * which all ropes hold are the timetables. The mills are the same each time.
 */
public final class DefinitionTests {
    private static final int MILLS = 400;
    private static final int TURNS = 3;
    private static final int ROPES = 6;
    private static final int LONGEST = 4;
    // The last minute tried: no time of an earliest timetable comes near it, nor does a difference with a bound.
    private static final int LAST = 20;
    private static final int NO_BOUND = 99999;

    private static int wrong = 0;
    private static int checks = 0;
    private static int mill = 0;
    private static long seed = 20261120;

    public static void main(String[] args) {
        int possible = 0;
        for (mill = 0; mill < MILLS && wrong < 20; mill++) {
            int[][] ropes = someRopes();
            RopeTimes x = millOf(ropes);
            if (least(ropes, LAST) != null) {
                possible++;
                checkTimes(x, ropes);
                checkLatest(x, ropes);
                checkMost(x, ropes);
                checkRoom(x, ropes);
            }
            checkHolds(x, ropes);
            checkWould(x, ropes);
            checkAdvise(x, ropes);
            checkTighten(x, ropes);
        }
        System.out.println(MILLS + " mills, " + possible + " with a timetable, " + wrong + " of " + checks + " checks are wrong");
        if (wrong != 0 || possible == 0 || possible == MILLS) {
            System.exit(1);
        }
    }

    // ---- mills

    private static int below(int bound) {
        seed = seed * 6364136223846793005L + 1442695040888963407L;
        return (int) ((seed >>> 33) % bound);
    }

    /** Each rope by its a, its b, its length, and 1 if it is tied. */
    private static int[][] someRopes() {
        int[][] ropes = new int[below(ROPES + 1)][];
        for (int rope = 0; rope < ropes.length; rope++) {
            int a = below(TURNS);
            int b = (a + 1 + below(TURNS - 1)) % TURNS;
            ropes[rope] = new int[] {a, b, below(2 * LONGEST) - LONGEST + below(2), below(5) == 0 ? 0 : 1};
        }
        return ropes;
    }

    private static RopeTimes millOf(int[][] ropes) {
        RopeTimes x = new RopeTimes();
        for (int turn = 0; turn < TURNS; turn++) {
            x.turn();
        }
        for (int rope = 0; rope < ropes.length; rope++) {
            x.tie(ropes[rope][0], ropes[rope][1], ropes[rope][2]);
            if (ropes[rope][3] == 0) {
                x.knot(rope);
            }
        }
        return x;
    }

    private static int[][] copyOf(int[][] ropes) {
        int[][] copy = new int[ropes.length][];
        for (int rope = 0; rope < ropes.length; rope++) {
            copy[rope] = ropes[rope].clone();
        }
        return copy;
    }

    // ---- all timetables

    private static boolean hold(int[][] ropes, int[] times) {
        for (int[] rope : ropes) {
            if (rope[3] == 1 && times[rope[1]] > times[rope[0]] + rope[2]) {
                return false;
            }
        }
        return true;
    }

    /** All timetables whose times are all the end or less, one after the other. */
    private static int[][] all(int[][] ropes, int end) {
        int[][] found = new int[(end + 1) * (end + 1) * (end + 1)][];
        int count = 0;
        for (int place = 0; place < found.length; place++) {
            int[] times = {place / (end + 1) / (end + 1), place / (end + 1) % (end + 1), place % (end + 1)};
            if (hold(ropes, times)) {
                found[count] = times;
                count++;
            }
        }
        return Arrays.copyOf(found, count);
    }

    private static int[] least(int[][] ropes, int end) {
        int[] least = null;
        for (int[] times : all(ropes, end)) {
            least = least == null ? times.clone() : least;
            for (int turn = 0; turn < TURNS; turn++) {
                least[turn] = Math.min(least[turn], times[turn]);
            }
        }
        return least;
    }

    private static int[] greatest(int[][] ropes, int end) {
        int[] greatest = new int[TURNS];
        for (int[] times : all(ropes, end)) {
            for (int turn = 0; turn < TURNS; turn++) {
                greatest[turn] = Math.max(greatest[turn], times[turn]);
            }
        }
        return greatest;
    }

    private static int difference(int[][] ropes, int a, int b, int end) {
        int difference = -NO_BOUND;
        for (int[] times : all(ropes, end)) {
            difference = Math.max(difference, times[b] - times[a]);
        }
        return difference;
    }

    private static int lastOf(int[] times) {
        return Arrays.stream(times).max().getAsInt();
    }

    private static boolean possibleWith(int[][] ropes, int[] another) {
        int[][] more = Arrays.copyOf(ropes, ropes.length + 1);
        more[ropes.length] = another;
        return least(more, LAST) != null;
    }

    // ---- what is due

    private static void due(String call, long got, long want) {
        checks++;
        if (got != want) {
            wrong++;
            System.out.println("mill " + mill + ": " + call + " answered " + got + ", due is " + want);
        }
    }

    private static void dueState(String call, Runnable run) {
        checks++;
        try {
            run.run();
            wrong++;
            System.out.println("mill " + mill + ": " + call + " threw nothing");
        } catch (IllegalStateException e) {
            return;
        }
    }

    private static void checkHolds(RopeTimes x, int[][] ropes) {
        boolean possible = least(ropes, LAST) != null;
        due("holds()", x.holds() ? 1 : 0, possible ? 1 : 0);
        due("count(6) is 0", x.count(6) == 0 ? 1 : 0, possible ? 1 : 0);
        if (!possible) {
            dueState("late(0, 9999)", () -> x.late(0, 9999));
            dueState("most(0, 1)", () -> x.most(0, 1));
            dueState("at(0)", () -> x.at(0));
        }
    }

    private static void checkTimes(RopeTimes x, int[][] ropes) {
        int[] times = least(ropes, LAST);
        due("count(4)", x.count(4), lastOf(times));
        int place = 0;
        for (int time = 0; time <= LAST; time++) {
            for (int turn = 0; turn < TURNS; turn++) {
                if (times[turn] == time) {
                    due("about(" + turn + ", 2)", x.about(turn, 2), time);
                    due("at(" + place + ")", x.at(place), turn);
                    place++;
                }
            }
        }
        for (int rope = 0; rope < ropes.length; rope++) {
            int[] r = ropes[rope];
            boolean tight = r[3] == 1 && times[r[1]] == times[r[0]] + r[2];
            due("told(" + rope + ", 4)", x.told(rope, 4), tight ? 1 : 0);
        }
    }

    private static void checkLatest(RopeTimes x, int[][] ropes) {
        int last = lastOf(least(ropes, LAST));
        for (int end = Math.max(0, last - 1); end < last + 3; end++) {
            int at = end;
            int[] latest = greatest(ropes, end);
            for (int turn = 0; turn < TURNS; turn++) {
                int of = turn;
                if (end < last) {
                    dueState("late(" + turn + ", " + end + ")", () -> x.late(of, at));
                } else {
                    due("late(" + turn + ", " + end + ")", x.late(turn, end), latest[turn]);
                }
            }
        }
    }

    private static void checkMost(RopeTimes x, int[][] ropes) {
        for (int a = 0; a < TURNS; a++) {
            for (int b = 0; b < TURNS; b++) {
                int most = difference(ropes, a, b, LAST);
                // Without a bound it grows with each minute that is tried.
                boolean bounded = difference(ropes, a, b, LAST + 1) == most;
                due("most(" + a + ", " + b + ")", x.most(a, b), bounded ? most : NO_BOUND);
            }
        }
    }

    /** The least length with which there would be a timetable; a way back leaves no more than two ropes' lengths. */
    private static int room(int[][] ropes, int rope) {
        int[][] others = copyOf(ropes);
        for (int w = -2 * LONGEST - 1; w < others[rope][2]; w++) {
            others[rope][2] = w;
            if (least(others, LAST) != null) {
                return w < -2 * LONGEST ? -99 : w;
            }
            others[rope][2] = ropes[rope][2];
        }
        return ropes[rope][2];
    }

    private static void checkRoom(RopeTimes x, int[][] ropes) {
        for (int rope = 0; rope < ropes.length; rope++) {
            int of = rope;
            if (ropes[rope][3] == 1) {
                due("room(" + rope + ")", x.room(rope), room(ropes, rope));
            } else {
                dueState("room(" + rope + ")", () -> x.room(of));
            }
        }
    }

    private static void checkWould(RopeTimes x, int[][] ropes) {
        for (int a = 0; a < TURNS; a++) {
            int b = (a + 1 + below(TURNS - 1)) % TURNS;
            int w = below(4 * LONGEST) - 2 * LONGEST;
            boolean possible = possibleWith(ropes, new int[] {a, b, w, 1});
            due("would(" + a + ", " + b + ", " + w + ")", x.would(a, b, w) ? 1 : 0, possible ? 1 : 0);
        }
    }

    private static void checkAdvise(RopeTimes x, int[][] ropes) {
        int[] now = least(ropes, LAST);
        int advised = -1;
        int least = now == null ? NO_BOUND : lastOf(now);
        for (int rope = 0; rope < ropes.length; rope++) {
            int[][] others = copyOf(ropes);
            others[rope][3] = 0;
            int[] times = least(others, LAST);
            if (ropes[rope][3] == 1 && times != null && lastOf(times) < least) {
                advised = rope;
                least = lastOf(times);
            }
        }
        due("advise()", x.advise(), advised);
    }

    /** A rope that nothing holds becomes -99, beyond the minutes that are tried: such mills are left out. */
    private static void checkTighten(RopeTimes x, int[][] ropes) {
        int[][] tightened = copyOf(ropes);
        int shorter = 0;
        for (int rope = 0; rope < ropes.length && least(ropes, LAST) != null; rope++) {
            if (ropes[rope][3] == 1) {
                tightened[rope][2] = room(tightened, rope);
                if (tightened[rope][2] == -99) {
                    return;
                }
                shorter += ropes[rope][2] - tightened[rope][2];
            }
        }
        due("tighten()", x.tighten(), shorter);
        for (int rope = 0; rope < ropes.length; rope++) {
            due("told(" + rope + ", 2)", x.told(rope, 2), tightened[rope][2]);
        }
    }
}
