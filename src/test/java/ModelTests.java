import java.util.ArrayList;
import java.util.List;

/**
 * Long runs of calls, each answer against a model that finds it in another, slower way: by trying
 * all short rings, all ways, all lengths of a rope. The runs are the same each time.
 */
public final class ModelTests {
    private static final int RUNS = 300;
    private static final int CALLS = 512;
    private static final int CALL_KINDS = 17;

    private static int wrong = 0;
    private static int thrown = 0;
    private static int ringless = 0;
    private static int ringed = 0;
    private static long seed = 20261119;

    public static void main(String[] args) {
        for (int run = 0; run < RUNS && wrong < 20; run++) {
            run(run);
        }
        System.out.println(RUNS + " runs, " + thrown + " calls threw, " + ringless + " calls with a timetable, "
                + ringed + " without, " + wrong + " wrong");
        if (wrong != 0 || thrown == 0 || ringless == 0 || ringed == 0) {
            System.exit(1);
        }
    }

    private static int below(int bound) {
        seed = seed * 6364136223846793005L + 1442695040888963407L;
        return (int) ((seed >>> 33) % bound);
    }

    private static void run(int run) {
        RopeTimes x = new RopeTimes();
        Model model = new Model();
        int mostTurns = 2 + below(12);
        int spread = below(4);
        for (int call = 0; call < CALLS; call++) {
            int kind = nextKind(model, mostTurns);
            int[] given = {someTurn(model), someTurn(model), someLength(spread)};
            if (kind != 1 && kind != 13 && kind != 10) {
                given[0] = kind == 2 || kind == 3 || kind == 5 || kind == 11 ? someOf(model.ropes.size()) : given[0];
                given[1] = kind == 2 ? someLength(spread) : someKind();
            }
            if (kind == 9) {
                given[1] = someEnd();
            }
            if (kind == 7) {
                given[0] = someKind();
            }
            compare(run, call, kind, given, x, model);
        }
    }

    private static int nextKind(Model model, int mostTurns) {
        if (model.turns < mostTurns && below(3) == 0) {
            return 0;
        }
        if (!model.possible() && below(3) == 0) {
            return below(2) == 0 ? 2 : 3;
        }
        int kind = below(CALL_KINDS + 3);
        if (kind >= CALL_KINDS) {
            return kind == CALL_KINDS ? 2 : 1;
        }
        boolean spared = (kind == 4 && below(6) != 0) || (kind == 0 && below(8) != 0);
        return spared ? 1 : kind;
    }

    private static int someOf(int size) {
        return below(25) == 0 ? (below(2) == 0 ? -1 : size) : below(Math.max(1, size));
    }

    private static int someTurn(Model model) {
        return someOf(model.turns);
    }

    private static int someKind() {
        return below(9) - 1;
    }

    private static int someEnd() {
        int[] ends = {-1, 0, below(60), below(400), below(2000), 9999, 10000};
        return ends[below(ends.length)];
    }

    private static int someLength(int spread) {
        int[] some = {below(40) - 8, below(60) - 5, below(199) - 99, below(130) - 30};
        return below(30) == 0 ? (below(2) == 0 ? -99 - below(2) : 99 + below(2)) : some[spread];
    }

    private static void compare(int run, int call, int kind, int[] given, RopeTimes x, Model model) {
        if (model.possible()) {
            ringless++;
        } else {
            ringed++;
        }
        String want = answerOfModel(kind, given, model);
        String got = answerOf(kind, given, x);
        check(run, call, kind, given, got, want);
        if (call % 16 == 15) {
            check(run, call, CALL_KINDS, given, "" + x.digest(), "" + model.digest());
        }
    }

    private static void check(int run, int call, int kind, int[] given, String got, String want) {
        if (want.startsWith("java.lang")) {
            thrown++;
        }
        if (!got.equals(want)) {
            wrong++;
            System.out.println("run " + run + ", call " + call + " of kind " + kind + " with " + given[0] + ", "
                    + given[1] + ", " + given[2] + " answered " + got + ", due is " + want);
        }
    }

    private static String answerOf(int kind, int[] given, RopeTimes x) {
        try {
            return answerOfMill(kind, given[0], given[1], given[2], x);
        } catch (RuntimeException e) {
            return e.getClass().getName();
        }
    }

    private static String answerOfMill(int kind, int a, int b, int c, RopeTimes x) {
        switch (kind) {
            case 0: return "" + x.turn();
            case 1: return "" + x.tie(a, b, c);
            case 2: return "" + x.cut(a, b);
            case 3: return "" + x.knot(a);
            case 4: return "" + x.tighten();
            case 5: return "" + x.told(a, b);
            case 6: return "" + x.about(a, b);
            case 7: return "" + x.count(a);
            case 8: return "" + x.holds();
            case 9: return "" + x.late(a, b);
            case 10: return "" + x.most(a, b);
            case 11: return "" + x.room(a);
            case 12: return "" + x.at(a);
            case 13: return "" + x.would(a, b, c);
            case 14: return "" + x.advise();
            case 15: return "" + x.mean();
            default: return "" + x.digest();
        }
    }

    private static String answerOfModel(int kind, int[] given, Model model) {
        try {
            return answerOfModel(kind, given[0], given[1], given[2], model);
        } catch (RuntimeException e) {
            return e.getClass().getName();
        }
    }

    private static String answerOfModel(int kind, int a, int b, int c, Model model) {
        switch (kind) {
            case 0: return "" + model.turn();
            case 1: return "" + model.tie(a, b, c);
            case 2: return "" + model.cut(a, b);
            case 3: return "" + model.knot(a);
            case 4: return "" + model.tighten();
            case 5: return "" + model.told(a, b);
            case 6: return "" + model.about(a, b);
            case 7: return "" + model.count(a);
            case 8: return "" + model.possible();
            case 9: return "" + model.late(a, b);
            case 10: return "" + model.most(a, b);
            case 11: return "" + model.room(a);
            case 12: return "" + model.at(a);
            case 13: return "" + model.would(a, b, c);
            case 14: return "" + model.advise();
            case 15: return "" + model.mean();
            default: return "" + model.digest();
        }
    }

    private static final class Rope {
        final int a;
        final int b;
        int w;
        boolean tied = true;

        Rope(int a, int b, int w) {
            this.a = a;
            this.b = b;
            this.w = w;
        }
    }

    /** Only ropes and turns are kept: all else is found anew for each answer. */
    private static final class Model {
        int turns = 0;
        final List<Rope> ropes = new ArrayList<>();

        static void need(boolean good, RuntimeException otherwise) {
            if (!good) {
                throw otherwise;
            }
        }

        static void inside(int x, int size) {
            need(x >= 0 && x < size, new IndexOutOfBoundsException());
        }

        static void argument(boolean good) {
            need(good, new IllegalArgumentException());
        }

        static void state(boolean good) {
            need(good, new IllegalStateException());
        }

        int turn() {
            state(turns < 12);
            return turns++;
        }

        int tie(int a, int b, int w) {
            inside(a, turns);
            inside(b, turns);
            argument(a != b && Math.abs(w) <= 99);
            state(ropes.size() < 30);
            ropes.add(new Rope(a, b, w));
            return ropes.size() - 1;
        }

        int cut(int rope, int w) {
            inside(rope, ropes.size());
            argument(Math.abs(w) <= 99);
            int before = ropes.get(rope).w;
            ropes.get(rope).w = w;
            return before;
        }

        boolean knot(int rope) {
            inside(rope, ropes.size());
            ropes.get(rope).tied = !ropes.get(rope).tied;
            return ropes.get(rope).tied;
        }

        int tighten() {
            int shorter = 0;
            for (int rope = 0; possible() && rope < ropes.size(); rope++) {
                if (ropes.get(rope).tied) {
                    int to = room(rope);
                    shorter += ropes.get(rope).w - to;
                    ropes.get(rope).w = to;
                }
            }
            return shorter;
        }

        int told(int rope, int what) {
            inside(rope, ropes.size());
            inside(what, 5);
            Rope r = ropes.get(rope);
            return new int[] {r.a, r.b, r.w, r.tied ? 1 : 0, tight(r) ? 1 : 0}[what];
        }

        boolean tight(Rope r) {
            int[] times = earliest();
            return times != null && r.tied && times[r.b] == times[r.a] + r.w;
        }

        int about(int turn, int what) {
            inside(turn, turns);
            inside(what, 3);
            int[] times = earliest();
            int out = 0;
            int in = 0;
            for (Rope r : ropes) {
                out += r.tied && r.a == turn ? 1 : 0;
                in += r.tied && r.b == turn ? 1 : 0;
            }
            return new int[] {out, in, times == null ? -1 : times[turn]}[what];
        }

        int count(int what) {
            inside(what, 7);
            int tied = 0;
            int tight = 0;
            for (Rope r : ropes) {
                tied += r.tied ? 1 : 0;
                tight += tight(r) ? 1 : 0;
            }
            int[] times = earliest();
            int last = times == null ? -1 : last(times);
            return new int[] {turns, ropes.size(), tied, rounds(), last, tight, shortRing()}[what];
        }

        static int last(int[] times) {
            int last = 0;
            for (int time : times) {
                last = Math.max(last, time);
            }
            return last;
        }

        /** Word by word as the document's "It is found so". */
        int rounds() {
            int[] times = new int[turns];
            int round = 0;
            boolean changed = true;
            while (changed) {
                changed = false;
                for (Rope r : ropes) {
                    if (r.tied && !(times[r.b] <= times[r.a] + r.w)) {
                        times[r.a] = times[r.b] - r.w;
                        changed = true;
                    }
                }
                if (changed && round == turns) {
                    return -1;
                }
                round++;
            }
            return round;
        }

        /** No short ring was met by going all ways that meet no turn twice. */
        int shortRing() {
            int fewest = 0;
            for (int start = 0; start < turns; start++) {
                int found = shortRing(start, start, 1 << start, 0, 0);
                if (found != 0 && (fewest == 0 || found < fewest)) {
                    fewest = found;
                }
            }
            return fewest;
        }

        int shortRing(int start, int now, int met, int sum, int steps) {
            int fewest = 0;
            for (Rope r : ropes) {
                if (r.tied && r.a == now) {
                    int found = 0;
                    if (r.b == start) {
                        found = sum + r.w < 0 ? steps + 1 : 0;
                    } else if (r.b > start && (met >> r.b & 1) == 0) {
                        found = shortRing(start, r.b, met | 1 << r.b, sum + r.w, steps + 1);
                    }
                    if (found != 0 && (fewest == 0 || found < fewest)) {
                        fewest = found;
                    }
                }
            }
            return fewest;
        }

        boolean possible() {
            return earliest() != null;
        }

        /** Each time as great as some way of ropes from its turn asks for; null without a timetable. */
        int[] earliest() {
            int[] times = new int[turns];
            int greatest = 99 * 12;
            boolean changed = true;
            while (changed) {
                changed = false;
                for (Rope r : ropes) {
                    while (r.tied && times[r.a] + r.w < times[r.b]) {
                        times[r.a]++;
                        changed = true;
                        if (times[r.a] > greatest) {
                            return null;
                        }
                    }
                }
            }
            return times;
        }

        /** From an end downwards, a minute at a time. */
        int late(int turn, int end) {
            inside(turn, turns);
            argument(end >= 0 && end <= 9999);
            int[] times = earliest();
            state(times != null && last(times) <= end);
            for (int each = 0; each < turns; each++) {
                times[each] = end;
            }
            boolean changed = true;
            while (changed) {
                changed = false;
                for (Rope r : ropes) {
                    while (r.tied && times[r.b] > times[r.a] + r.w) {
                        times[r.b]--;
                        changed = true;
                    }
                }
            }
            return times[turn];
        }

        int most(int a, int b) {
            inside(a, turns);
            inside(b, turns);
            state(possible());
            return leastWay(a, b);
        }

        int leastWay(int a, int b) {
            int[] least = new int[turns];
            java.util.Arrays.fill(least, 99999);
            least[a] = 0;
            for (int round = 0; round < turns; round++) {
                for (Rope r : ropes) {
                    if (r.tied && least[r.a] != 99999) {
                        least[r.b] = Math.min(least[r.b], least[r.a] + r.w);
                    }
                }
            }
            return least[b];
        }

        int room(int rope) {
            inside(rope, ropes.size());
            Rope r = ropes.get(rope);
            state(r.tied && possible());
            int before = r.w;
            int least = -99;
            r.w = least;
            while (!possible()) {
                least++;
                r.w = least;
            }
            r.w = before;
            return least;
        }

        boolean would(int a, int b, int w) {
            inside(a, turns);
            inside(b, turns);
            argument(a != b && Math.abs(w) <= 99);
            ropes.add(new Rope(a, b, w));
            boolean answer = possible();
            ropes.remove(ropes.size() - 1);
            return answer;
        }

        int at(int place) {
            inside(place, turns);
            int[] times = earliest();
            state(times != null);
            List<Integer> order = new ArrayList<>();
            for (int turn = 0; turn < turns; turn++) {
                order.add(turn);
            }
            order.sort((i, j) -> times[i] - times[j]);
            return order.get(place);
        }

        int advise() {
            int[] now = earliest();
            int best = -1;
            int least = 0;
            for (int rope = 0; rope < ropes.size(); rope++) {
                Rope r = ropes.get(rope);
                if (r.tied) {
                    r.tied = false;
                    int[] then = earliest();
                    r.tied = true;
                    boolean counts = then != null && (now == null || last(then) < last(now));
                    if (counts && (best == -1 || last(then) < least)) {
                        best = rope;
                        least = last(then);
                    }
                }
            }
            return best;
        }

        double mean() {
            int[] times = earliest();
            if (times == null || turns == 0) {
                return 0;
            }
            double sum = 0;
            for (int time : times) {
                sum += time;
            }
            return sum / turns;
        }

        long digest() {
            List<Integer> numbers = new ArrayList<>();
            for (int what = 0; what < 7; what++) {
                numbers.add(count(what));
            }
            for (int turn = 0; turn < turns; turn++) {
                for (int what = 0; what < 3; what++) {
                    numbers.add(about(turn, what));
                }
            }
            for (int rope = 0; rope < ropes.size(); rope++) {
                for (int what = 0; what < 5; what++) {
                    numbers.add(told(rope, what));
                }
            }
            for (int pair = 0; possible() && pair < turns * turns; pair++) {
                numbers.add(most(pair / turns, pair % turns));
            }
            long d = 1553;
            for (int x : numbers) {
                d = d * 31 + x;
            }
            return d;
        }
    }
}
