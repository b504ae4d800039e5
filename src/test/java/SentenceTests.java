import java.io.IOException;
import java.math.BigInteger;
import java.nio.file.Files;
import java.nio.file.Path;
import java.util.ArrayList;
import java.util.List;

/**
 * For each sentence of ../shared/DOC.md that names a boundary case (too small, too large, empty, full,
 * a wrap-around, a refused call) a test of its own. Each names the section and the sentence that it
 * holds, in the document's words: a wrong answer is told under both.
 */
public final class SentenceTests {
    private static final int LOWEST = Integer.MIN_VALUE;
    private static final int HIGHEST = Integer.MAX_VALUE;
    private static final int NO_BOUND = 99999;

    private static int wrong = 0;
    private static int sentences = 0;
    private static int checks = 0;
    private static int checksOfSentence = 1;
    private static String heading = "";
    private static String words = "";
    private static String document = "";

    private interface Call {
        void run();
    }

    public static void main(String[] args) {
        readDocument();
        whatItIs();
        termsOfTurnsAndRopes();
        termsOfTheEarliest();
        termsOfWhatCanBe();
        termsOfExceptions();
        promise1();
        promise2();
        promise3();
        promise4();
        promise5();
        promise6();
        promise7();
        promise8();
        promise9();
        promise10();
        promise11();
        promise12();
        promise13();
        promise14();
        promise15();
        promise16();
        promise17();
        promise18();
        endSentence();
        System.out.println(sentences + " sentences, " + wrong + " of " + checks + " checks are wrong");
        if (wrong != 0) {
            System.exit(1);
        }
    }

    // ---- the document's sentences

    private static void readDocument() {
        try {
            document = Files.readString(Path.of("../shared/DOC.md"));
        } catch (IOException e) {
            System.out.println("../shared/DOC.md can't be read from here: the sentences are not compared with it");
        }
    }

    private static void section(String name) {
        endSentence();
        heading = name;
        words = "";
    }

    /** What is checked from here on holds this sentence, which stands in the section so. */
    private static void sentence(String quoted) {
        endSentence();
        sentences++;
        words = quoted;
        checksOfSentence = 0;
        if (!document.isEmpty() && !textOfSection().contains(quoted)) {
            fault("the section has no such sentence");
        }
    }

    private static void endSentence() {
        if (checksOfSentence == 0) {
            fault("nothing is checked");
        }
        checksOfSentence = 1;
    }

    private static String textOfSection() {
        int start = document.indexOf("\n## " + heading);
        if (start < 0) {
            return "";
        }
        int end = document.indexOf("\n## ", start + 1);
        return document.substring(start, end < 0 ? document.length() : end);
    }

    private static void fault(String what) {
        wrong++;
        System.out.println(heading + ", \"" + words + "\": " + what);
    }

    // ---- how a check is told

    private static void due(String call, long got, long want) {
        checks++;
        checksOfSentence++;
        if (got != want) {
            fault(call + " answered " + got + ", due is " + want);
        }
    }

    private static void due(String call, boolean got, boolean want) {
        due(call, got ? 1 : 0, want ? 1 : 0);
    }

    private static void dueDouble(String call, double got, double want) {
        checks++;
        checksOfSentence++;
        if (Double.compare(got, want) != 0) {
            fault(call + " answered " + got + ", due is " + want);
        }
    }

    private static String thrownBy(Call run) {
        try {
            run.run();
        } catch (RuntimeException e) {
            return e.getClass().getSimpleName();
        }
        return "nothing";
    }

    /** The call throws just this exception, and changes nothing. */
    private static void refused(String call, String want, RopeTimes x, Call run) {
        long before = x.digest();
        String got = thrownBy(run);
        checks++;
        checksOfSentence++;
        if (!got.equals(want)) {
            fault(call + " threw " + got + ", due is " + want);
        }
        if (x.digest() != before) {
            fault(call + " changed something");
        }
    }

    private static void outside(String call, RopeTimes x, Call run) {
        refused(call, "IndexOutOfBoundsException", x, run);
    }

    private static void argument(String call, RopeTimes x, Call run) {
        refused(call, "IllegalArgumentException", x, run);
    }

    private static void state(String call, RopeTimes x, Call run) {
        refused(call, "IllegalStateException", x, run);
    }

    /** Numbers outside 0 to size - 1: those next to the edges, and the farthest. */
    private static int[] outsideOf(int size) {
        return new int[] {-1, size, size + 1, LOWEST, HIGHEST};
    }

    private static int[] wrongLengths() {
        return new int[] {-100, 100, LOWEST, HIGHEST};
    }

    // ---- mills

    private static RopeTimes mill(int turns, int[]... ropes) {
        RopeTimes x = new RopeTimes();
        for (int turn = 0; turn < turns; turn++) {
            x.turn();
        }
        for (int[] rope : ropes) {
            x.tie(rope[0], rope[1], rope[2]);
        }
        return x;
    }

    private static int[] rope(int a, int b, int w) {
        return new int[] {a, b, w};
    }

    /** Earliest times 0 4 7 2; the ropes 1, 2 and 3 are tight. */
    private static RopeTimes smallMill() {
        return mill(4, rope(0, 1, 10), rope(1, 0, -4), rope(2, 1, -3), rope(3, 2, 5), rope(0, 3, 20));
    }

    /** Two turns in a ring of -1: no timetable. A third one stands alone. */
    private static RopeTimes brokenMill() {
        return mill(3, rope(0, 1, 0), rope(1, 0, -1));
    }

    /** 12 turns in a ring, 30 ropes from each to the next one. */
    private static RopeTimes fullMill() {
        RopeTimes x = mill(12);
        for (int rope = 0; rope < 30; rope++) {
            x.tie(rope % 12, (rope + 1) % 12, 50);
        }
        return x;
    }

    /** 11 ropes of this length, from each turn to the next, with numbers that go up with the turns or down. */
    private static RopeTimes chainMill(int w, boolean up) {
        RopeTimes x = mill(12);
        for (int step = 0; step < 11; step++) {
            int turn = up ? step : 10 - step;
            x.tie(turn, turn + 1, w);
        }
        return x;
    }

    /** A ring of this many turns, whose ropes have a sum of so much, among 12 turns. */
    private static RopeTimes ringMill(int turns, int sum) {
        RopeTimes x = mill(12);
        for (int turn = 0; turn < turns - 1; turn++) {
            x.tie(turn, turn + 1, 1);
        }
        x.tie(turns - 1, 0, sum - (turns - 1));
        return x;
    }

    // ---- What it is

    private static void whatItIs() {
        section("What it is");
        sentence("An object is used for at most 512 calls after it has been made");
        RopeTimes x = fullMill();
        for (int call = 42; call < 510; call++) {
            due("knot(29), call " + (call + 1), x.knot(29), call % 2 == 1);
        }
        due("cut(29, -99), call 511", x.cut(29, -99), 50);
        due("about(5, 2), call 512", x.about(5, 2), 99);
        RopeTimes same = fullMill();
        for (int call = 42; call < 511; call++) {
            same.tighten();
        }
        RopeTimes once = fullMill();
        once.tighten();
        due("digest(), call 512", same.digest(), once.digest());
        RopeTimes throwing = fullMill();
        int threw = 0;
        for (int call = 42; call < 511; call++) {
            threw += thrownBy(throwing::turn).equals("IllegalStateException") ? 1 : 0;
        }
        due("turn() thrown by", threw, 469);
        due("digest(), call 512", throwing.digest(), fullMill().digest());
    }

    // ---- Terms

    private static void termsOfTurnsAndRopes() {
        section("Terms");
        sentence("each tells by how many minutes at most one turn comes behind another one"
                + " (less than 0: it has to come ahead of it)");
        due("about(0, 2), length 1", mill(2, rope(0, 1, 1)).about(0, 2), 0);
        due("about(0, 2), length 0", mill(2, rope(0, 1, 0)).about(0, 2), 0);
        due("about(0, 2), length -1", mill(2, rope(0, 1, -1)).about(0, 2), 1);
        due("about(1, 2), length -1", mill(2, rope(0, 1, -1)).about(1, 2), 0);

        sentence("Times are told in minutes; none is less than 0.");
        RopeTimes wide = chainMill(99, true);
        for (int turn = 0; turn < 12; turn++) {
            due("about(" + turn + ", 2) with ropes of 99", wide.about(turn, 2), 0);
            due("late(" + turn + ", 0)", wide.late(turn, 0), 0);
        }
        due("count(4)", wide.count(4), 0);

        sentence("There are at most 12, numbered from 0.");
        RopeTimes x = new RopeTimes();
        for (int turn = 0; turn < 12; turn++) {
            due("turn()", x.turn(), turn);
        }
        state("turn() with 12", x, x::turn);
        due("about(11, 0)", x.about(11, 0), 0);
        outside("about(12, 0)", x, () -> x.about(12, 0));

        sentence("At most 30 can be tied in all, numbered from 0");
        for (int rope = 0; rope < 30; rope++) {
            due("tie(11, 0, 99)", x.tie(11, 0, 99), rope);
            due("knot(" + rope + ")", x.knot(rope), false);
        }
        state("tie(11, 0, 99) with 30, all untied", x, () -> x.tie(11, 0, 99));
        due("told(29, 0)", x.told(29, 0), 11);
        outside("told(30, 0)", x, () -> x.told(30, 0));

        sentence("each goes from a turn a to another turn b, and has a length w, -99 to 99");
        RopeTimes lengths = mill(3);
        for (int w = -99; w <= 99; w += 9) {
            due("tie(0, 2, " + w + ")", lengths.tie(0, 2, w), (w + 99) / 9);
            due("told(.., 2)", lengths.told((w + 99) / 9, 2), w);
        }
        argument("tie(2, 2, 0)", lengths, () -> lengths.tie(2, 2, 0));

        sentence("it is tied, or untied (then it counts for nothing)");
        untiedCountsForNothing();

        sentence("the time of b is at most the time of a, and w.");
        RopeTimes even = mill(2, rope(0, 1, -7), rope(1, 0, 7));
        due("holds(): both by 7", even.holds(), true);
        due("told(0, 4)", even.told(0, 4), 1);
        even.cut(1, 6);
        due("holds(): by 7 at least, and by 6 at most", even.holds(), false);
    }

    /** One mill has two harsh ropes, untied, the other does without them. */
    private static void untiedCountsForNothing() {
        RopeTimes x = mill(4, rope(3, 1, -99), rope(0, 1, 10), rope(1, 0, -4), rope(2, 1, -3), rope(3, 2, 5),
                rope(0, 3, 20), rope(1, 0, -99));
        x.knot(0);
        x.knot(6);
        RopeTimes without = smallMill();
        due("holds()", x.holds(), true);
        for (int what = 2; what < 7; what++) {
            due("count(" + what + ")", x.count(what), without.count(what));
        }
        for (int turn = 0; turn < 4; turn++) {
            for (int what = 0; what < 3; what++) {
                due("about(" + turn + ", " + what + ")", x.about(turn, what), without.about(turn, what));
            }
            for (int b = 0; b < 4; b++) {
                due("most(" + turn + ", " + b + ")", x.most(turn, b), without.most(turn, b));
            }
            due("late(" + turn + ", 9)", x.late(turn, 9), without.late(turn, 9));
            due("at(" + turn + ")", x.at(turn), without.at(turn));
        }
        for (int rope = 0; rope < 5; rope++) {
            due("room(" + (rope + 1) + ")", x.room(rope + 1), without.room(rope));
        }
        due("would(1, 2, 3)", x.would(1, 2, 3), true);
        due("advise()", x.advise(), without.advise() + 1);
        dueDouble("mean()", x.mean(), without.mean());
        due("told(0, 4)", x.told(0, 4), 0);
        due("tighten()", x.tighten(), without.tighten());
        due("told(6, 2)", x.told(6, 2), -99);
        RopeTimes broken = brokenMill();
        broken.tie(1, 2, -50);
        broken.tie(2, 1, -50);
        broken.knot(1);
        broken.knot(3);
        due("holds() with a rope of each ring untied", broken.holds(), true);
        broken.knot(3);
        broken.knot(0);
        due("count(6) with one ring untied", broken.count(6), 2);
        due("advise() looks at none that is untied", broken.advise(), 2);
        RopeTimes rings = mill(5, rope(0, 1, -1), rope(1, 0, 0), rope(2, 3, -1), rope(3, 4, 0), rope(4, 2, 0));
        due("count(6), rings of 2 and of 3", rings.count(6), 2);
        rings.knot(1);
        due("count(6) with a rope of the ring of 2 untied", rings.count(6), 3);
    }

    private static void termsOfTheEarliest() {
        section("Terms");
        sentence("times of all turns, 0 or more, by which all ropes that are tied hold.");
        due("holds() without turns", new RopeTimes().holds(), true);
        due("holds() of a turn alone", mill(1).holds(), true);
        due("count(4) of a turn alone", mill(1).count(4), 0);
        due("holds() of all at 0", mill(2, rope(0, 1, 0), rope(1, 0, 0)).holds(), true);
        due("holds() of all at 0, or later", mill(2, rope(0, 1, -99), rope(1, 0, 99)).holds(), true);

        sentence("If there is one, there is an earliest one: each turn has the least time that it has in any.");
        compareWithAllTimetables(true);

        sentence("all times are 0 at first.");
        due("about(0, 2) of a new turn", mill(1).about(0, 2), 0);
        RopeTimes again = mill(2, rope(0, 1, -9));
        due("about(0, 2)", again.about(0, 2), 9);
        again.cut(0, -2);
        due("about(0, 2): not from where it stood", again.about(0, 2), 2);
        again.knot(0);
        due("about(0, 2) untied", again.about(0, 2), 0);

        sentence("(so it is greater), which counts for the ropes behind it in the same round.");
        due("count(3): each rope behind the one it waits for", chainMill(-99, false).count(3), 2);
        due("count(3): each rope ahead of it", chainMill(-99, true).count(3), 12);
        RopeTimes greater = mill(3, rope(0, 1, -5), rope(0, 2, -3));
        due("about(0, 2): the lesser one takes nothing back", greater.about(0, 2), 5);
        due("count(3)", greater.count(3), 2);

        sentence("A round in which some time was changed is followed by another one.");
        due("count(3) without a change", mill(2, rope(0, 1, 0)).count(3), 1);
        due("count(3) with one", mill(2, rope(0, 1, -1)).count(3), 2);
        due("count(3) with two rounds of them", mill(3, rope(0, 1, -1), rope(1, 2, -1)).count(3), 3);

        sentence("The first round has the number 0; if a time is changed in the round whose number is that of"
                + " the turns (12 with 12 turns), there is no timetable.");
        due("count(3), 12 turns, as many rounds as can be", chainMill(-1, true).count(3), 12);
        for (int turns = 2; turns <= 12; turns++) {
            due("holds(), a ring of -1 by " + turns, ringMill(turns, -1).holds(), false);
            due("count(3), a ring of -1 by " + turns, ringMill(turns, -1).count(3), -1);
            due("holds(), a ring of 0 by " + turns, ringMill(turns, 0).holds(), true);
        }
        RopeTimes few = mill(3, rope(0, 1, -1), rope(1, 2, -1));
        due("count(3), 3 turns, as many rounds as can be", few.count(3), 3);
        few.tie(2, 0, 1);
        due("holds() of 3 turns, a ring of -1", few.holds(), false);
    }

    private static void termsOfWhatCanBe() {
        section("Terms");
        sentence("no turn twice, with a sum of lengths less than 0. There is a timetable, if there is none.");
        RopeTimes ring = ringMill(5, 0);
        due("count(6) with a sum of 0", ring.count(6), 0);
        due("holds() with a sum of 0", ring.holds(), true);
        ring.cut(2, 0);
        due("count(6) with a sum of -1", ring.count(6), 5);
        due("holds() with a sum of -1", ring.holds(), false);
        RopeTimes oneWay = mill(3, rope(0, 1, -99), rope(1, 2, -99), rope(0, 2, -99));
        due("count(6) with no way back", oneWay.count(6), 0);
        RopeTimes eight = mill(4, rope(0, 1, 1), rope(1, 0, 1), rope(0, 2, -1), rope(2, 3, -1), rope(3, 0, 1));
        due("count(6): the ring beside it is not short", eight.count(6), 3);

        sentence("Its length: the fewest ropes of any short ring.");
        for (int turns = 2; turns <= 12; turns++) {
            due("count(6), all of " + turns, ringMill(turns, -1).count(6), turns);
        }
        RopeTimes many = ringMill(12, -1);
        many.tie(4, 2, -2);
        due("count(6), a ring of 3 with a sum of 0 as well", many.count(6), 12);
        many.tie(4, 1, -4);
        due("count(6), one of 4 with a sum of -1 as well", many.count(6), 4);
        many.tie(11, 10, -2);
        due("count(6), one of 2 as well", many.count(6), 2);

        sentence("the least sum of lengths of any way along ropes from a to b (0 from a to itself);"
                + " without such a way there is no bound.");
        RopeTimes chain = chainMill(99, true);
        due("most(0, 11)", chain.most(0, 11), 1089);
        due("most(11, 0)", chain.most(11, 0), NO_BOUND);
        due("most(0, 11) of -99", chainMill(-99, true).most(0, 11), -1089);
        RopeTimes ways = mill(3, rope(0, 2, 5), rope(0, 1, 3), rope(1, 2, 1), rope(0, 2, 6));
        due("most(0, 2): two ropes are less than one", ways.most(0, 2), 4);
        ways.cut(2, 3);
        due("most(0, 2): one is less", ways.most(0, 2), 5);
        due("most(1, 1) without a ring", ways.most(1, 1), 0);
        RopeTimes around = ringMill(12, 1);
        for (int turn = 0; turn < 12; turn++) {
            due("most(" + turn + ", " + turn + ") in a ring of 1", around.most(turn, turn), 0);
        }
        compareWithAllTimetables(false);

        sentence("the time of a turn at the latest is the greatest one that it has in any timetable whose times"
                + " are all T or less.");
        compareLatestWithAllTimetables();
        RopeTimes behind = chainMill(-99, true);
        due("late(11, 1089)", behind.late(11, 1089), 0);
        due("late(0, 1089)", behind.late(0, 1089), 1089);
        due("late(11, 9999)", behind.late(11, 9999), 8910);
    }

    /** Mills of three turns, small enough that all timetables up to time 12 tell what is due. */
    private static List<int[][]> threeTurnMills() {
        List<int[][]> mills = new ArrayList<>();
        for (int w = -3; w <= 3; w++) {
            mills.add(new int[][] {rope(0, 1, w), rope(1, 2, -2), rope(2, 0, 3)});
            mills.add(new int[][] {rope(0, 1, 2), rope(2, 1, w), rope(1, 2, 1)});
            mills.add(new int[][] {rope(1, 0, w), rope(2, 0, -w), rope(1, 2, -1)});
            mills.add(new int[][] {rope(2, 1, -2), rope(1, 0, w), rope(0, 2, 1), rope(0, 1, 3)});
        }
        return mills;
    }

    private static boolean allHold(int[][] ropes, int[] times) {
        for (int[] rope : ropes) {
            if (times[rope[1]] > times[rope[0]] + rope[2]) {
                return false;
            }
        }
        return true;
    }

    private static List<int[]> timetables(int[][] ropes, int end) {
        List<int[]> all = new ArrayList<>();
        for (int first = 0; first <= end; first++) {
            for (int second = 0; second <= end; second++) {
                for (int third = 0; third <= end; third++) {
                    int[] times = {first, second, third};
                    if (allHold(ropes, times)) {
                        all.add(times);
                    }
                }
            }
        }
        return all;
    }

    private static void compareWithAllTimetables(boolean earliest) {
        for (int[][] ropes : threeTurnMills()) {
            RopeTimes x = mill(3, ropes);
            List<int[]> all = timetables(ropes, 12);
            due("holds()", x.holds(), !all.isEmpty());
            for (int turn = 0; turn < 3; turn++) {
                for (int b = 0; b < 3 && !all.isEmpty() && !earliest; b++) {
                    compareMost(x, all, turn, b);
                }
                if (earliest) {
                    due("about(" + turn + ", 2)", x.about(turn, 2), leastOf(all, turn));
                }
            }
        }
    }

    private static int leastOf(List<int[]> all, int turn) {
        int least = all.isEmpty() ? -1 : HIGHEST;
        for (int[] times : all) {
            least = Math.min(least, times[turn]);
        }
        return least;
    }

    private static void compareMost(RopeTimes x, List<int[]> all, int a, int b) {
        int most = LOWEST;
        for (int[] times : all) {
            most = Math.max(most, times[b] - times[a]);
        }
        // Times up to 12 bind a difference without a bound from both sides only by 8 and more here.
        due("most(" + a + ", " + b + ")", x.most(a, b), most >= 8 ? NO_BOUND : most);
    }

    private static void compareLatestWithAllTimetables() {
        for (int[][] ropes : threeTurnMills()) {
            RopeTimes x = mill(3, ropes);
            for (int end = 0; end <= 9; end++) {
                int t = end;
                List<int[]> all = timetables(ropes, end);
                for (int turn = 0; turn < 3; turn++) {
                    int each = turn;
                    String call = "late(" + turn + ", " + end + ")";
                    if (all.isEmpty()) {
                        state(call, x, () -> x.late(each, t));
                    } else {
                        due(call, x.late(turn, end), greatestOf(all, turn));
                    }
                }
            }
        }
    }

    private static int greatestOf(List<int[]> all, int turn) {
        int greatest = 0;
        for (int[] times : all) {
            greatest = Math.max(greatest, times[turn]);
        }
        return greatest;
    }

    private static void termsOfExceptions() {
        section("Terms");
        sentence("A method that throws an exception changes nothing.");
        changeNothing(smallMill(), smallMill());
        changeNothing(brokenMill(), brokenMill());
        changeNothing(fullMill(), fullMill());
        changeNothing(new RopeTimes(), new RopeTimes());

        sentence("If several exceptions apply, the one that is named first is thrown.");
        RopeTimes full = fullMill();
        outside("tie(12, 12, 100) with 30", full, () -> full.tie(12, 12, 100));
        outside("tie(0, 12, 0) with 30", full, () -> full.tie(0, 12, 0));
        outside("tie(0, -1, 100)", full, () -> full.tie(0, -1, 100));
        argument("tie(0, 0, 0) with 30", full, () -> full.tie(0, 0, 0));
        argument("tie(0, 1, 100) with 30", full, () -> full.tie(0, 1, 100));
        outside("cut(30, 100)", full, () -> full.cut(30, 100));
        outside("would(12, 12, 0)", full, () -> full.would(12, 12, 0));
        outside("would(0, -1, -100)", full, () -> full.would(0, -1, -100));
        outside("late(12, -1)", full, () -> full.late(12, -1));
        RopeTimes broken = brokenMill();
        outside("late(3, 0) without a timetable", broken, () -> broken.late(3, 0));
        outside("late(-1, 10000) without a timetable", broken, () -> broken.late(-1, 10000));
        argument("late(0, 10000) without a timetable", broken, () -> broken.late(0, 10000));
        argument("late(0, -1) without a timetable", broken, () -> broken.late(0, -1));
        outside("most(0, 3) without a timetable", broken, () -> broken.most(0, 3));
        outside("most(3, 0) without a timetable", broken, () -> broken.most(3, 0));
        outside("room(2) without a timetable", broken, () -> broken.room(2));
        outside("at(3) without a timetable", broken, () -> broken.at(3));
        RopeTimes late = smallMill();
        argument("late(0, -1), less than the last time as well", late, () -> late.late(0, -1));
    }

    /** Makes wrong calls of all methods that throw, and compares with a mill that had none of them. */
    private static void changeNothing(RopeTimes x, RopeTimes same) {
        int turns = x.count(0);
        int ropes = x.count(1);
        outside("tie(.., 0, 5)", x, () -> x.tie(turns, 0, 5));
        outside("tie(0, .., 5)", x, () -> x.tie(0, turns, 5));
        outside("cut(.., 5)", x, () -> x.cut(ropes, 5));
        outside("knot(..)", x, () -> x.knot(ropes));
        outside("told(.., 2)", x, () -> x.told(ropes, 2));
        outside("about(.., 2)", x, () -> x.about(turns, 2));
        outside("count(7)", x, () -> x.count(7));
        outside("late(.., 99)", x, () -> x.late(turns, 99));
        outside("most(.., 0)", x, () -> x.most(turns, 0));
        outside("room(..)", x, () -> x.room(ropes));
        outside("would(.., 0, 5)", x, () -> x.would(turns, 0, 5));
        outside("at(..)", x, () -> x.at(turns));
        if (ropes > 0) {
            argument("tie(0, 0, 5)", x, () -> x.tie(0, 0, 5));
            argument("tie(0, 1, 100)", x, () -> x.tie(0, 1, 100));
            argument("cut(0, 100)", x, () -> x.cut(0, 100));
            argument("cut(0, -100)", x, () -> x.cut(0, -100));
            argument("would(0, 1, 100)", x, () -> x.would(0, 1, 100));
            argument("late(0, 10000)", x, () -> x.late(0, 10000));
        }
        if (turns == 12) {
            state("turn() with 12", x, x::turn);
            state("tie(0, 1, -99) with 30", x, () -> x.tie(0, 1, -99));
        }
        if (!x.holds()) {
            state("most(0, 1)", x, () -> x.most(0, 1));
            state("room(0)", x, () -> x.room(0));
            state("late(0, 9999)", x, () -> x.late(0, 9999));
            state("at(0)", x, () -> x.at(0));
        }
        due("digest()", x.digest(), same.digest());
        if (turns < 12) {
            due("turn() takes the next number", x.turn(), turns);
            same.turn();
        }
        if (turns > 1 && ropes < 30) {
            due("tie(1, 0, 9) takes the next number", x.tie(1, 0, 9), ropes);
            same.tie(1, 0, 9);
        }
        due("digest() after a turn and a rope more", x.digest(), same.digest());
    }

    // ---- Promise 1

    private static void promise1() {
        section("Promise 1:");
        sentence("Creates a mill without turns.");
        RopeTimes x = new RopeTimes();
        int[] counts = {0, 0, 0, 1, 0, 0, 0};
        for (int what = 0; what < 7; what++) {
            due("count(" + what + ")", x.count(what), counts[what]);
        }
        due("holds()", x.holds(), true);
        due("tighten()", x.tighten(), 0);
        due("advise()", x.advise(), -1);
        dueDouble("mean()", x.mean(), 0.0);
        outside("about(0, 0)", x, () -> x.about(0, 0));
        outside("told(0, 0)", x, () -> x.told(0, 0));
        outside("cut(0, 0)", x, () -> x.cut(0, 0));
        outside("knot(0)", x, () -> x.knot(0));
        outside("room(0)", x, () -> x.room(0));
        outside("at(0)", x, () -> x.at(0));
        outside("late(0, 0)", x, () -> x.late(0, 0));
        outside("most(0, 0)", x, () -> x.most(0, 0));
        outside("tie(0, 1, 0)", x, () -> x.tie(0, 1, 0));
        outside("would(0, 1, 0)", x, () -> x.would(0, 1, 0));
        RopeTimes other = mill(12, rope(0, 1, -9));
        due("count(0) beside another one", x.count(0), 0);
        due("count(1) beside another one", x.count(1), 0);
        due("count(0) of the other one", other.count(0), 12);
    }

    // ---- Promise 2

    private static void promise2() {
        section("Promise 2:");
        sentence("Returns the number of a new turn.");
        RopeTimes x = new RopeTimes();
        for (int turn = 0; turn < 12; turn++) {
            due("turn()", x.turn(), turn);
            due("count(0)", x.count(0), turn + 1);
            int[] about = {x.about(turn, 0), x.about(turn, 1), x.about(turn, 2)};
            due("about(" + turn + ", ..)", about[0] + about[1] + about[2], 0);
            due("most(" + turn + ", " + turn + ")", x.most(turn, turn), 0);
        }
        RopeTimes small = smallMill();
        due("turn() beside ropes", small.turn(), 4);
        due("about(2, 2) of an old one", small.about(2, 2), 7);
        due("most(0, 4)", small.most(0, 4), NO_BOUND);
        due("most(4, 0)", small.most(4, 0), NO_BOUND);
        RopeTimes broken = brokenMill();
        due("turn() without a timetable", broken.turn(), 3);
        due("holds()", broken.holds(), false);
        due("about(3, 2)", broken.about(3, 2), -1);

        sentence("Throws `IllegalStateException` if there are 12");
        state("turn() with 12", x, x::turn);
        state("turn() once more", x, x::turn);
        due("count(0)", x.count(0), 12);
        due("turn() with 11", mill(11).turn(), 11);
        RopeTimes fullBroken = fullMill();
        fullBroken.cut(0, -99);
        fullBroken.cut(1, -99);
        fullBroken.cut(12, -99);
        for (int rope = 2; rope < 12; rope++) {
            fullBroken.cut(rope, 0);
        }
        due("holds()", fullBroken.holds(), false);
        state("turn() with 12, without a timetable", fullBroken, fullBroken::turn);
    }

    // ---- Promise 3

    private static void promise3() {
        section("Promise 3:");
        sentence("Returns its number.");
        RopeTimes x = mill(12);
        for (int rope = 0; rope < 30; rope++) {
            due("tie(11, 0, ..)", x.tie(11, 0, 99 - rope), rope);
            due("count(1)", x.count(1), rope + 1);
            due("told(" + rope + ", 0)", x.told(rope, 0), 11);
            due("told(" + rope + ", 1)", x.told(rope, 1), 0);
            due("told(" + rope + ", 2)", x.told(rope, 2), 99 - rope);
            due("told(" + rope + ", 3)", x.told(rope, 3), 1);
        }
        RopeTimes broken = brokenMill();
        due("tie(2, 0, 1) without a timetable", broken.tie(2, 0, 1), 2);

        sentence("Throws `IndexOutOfBoundsException` if there is no such turn");
        RopeTimes two = mill(2);
        for (int no : outsideOf(2)) {
            outside("tie(" + no + ", 0, 1)", two, () -> two.tie(no, 0, 1));
            outside("tie(0, " + no + ", 1)", two, () -> two.tie(0, no, 1));
            outside("tie(" + no + ", " + no + ", 1)", two, () -> two.tie(no, no, 1));
        }
        for (int no : outsideOf(12)) {
            RopeTimes twelve = mill(12);
            outside("tie(" + no + ", 0, 1) of 12", twelve, () -> twelve.tie(no, 0, 1));
            outside("tie(0, " + no + ", 1) of 12", twelve, () -> twelve.tie(0, no, 1));
        }
        due("tie(1, 0, 1)", two.tie(1, 0, 1), 0);
        due("tie(0, 1, 1)", two.tie(0, 1, 1), 1);

        sentence("Throws `IllegalArgumentException` if both are the same, or w is not -99 to 99");
        argument("tie(0, 0, 1)", two, () -> two.tie(0, 0, 1));
        argument("tie(1, 1, -1)", two, () -> two.tie(1, 1, -1));
        argument("tie(1, 1, 100)", two, () -> two.tie(1, 1, 100));
        for (int w : wrongLengths()) {
            argument("tie(0, 1, " + w + ")", two, () -> two.tie(0, 1, w));
        }
        due("tie(0, 1, 99)", two.tie(0, 1, 99), 2);
        due("tie(1, 0, -99)", two.tie(1, 0, -99), 3);
        due("told(2, 2)", two.told(2, 2), 99);
        due("told(3, 2)", two.told(3, 2), -99);

        sentence("Throws `IllegalStateException` if 30 were tied");
        state("tie(0, 1, 0) with 30", x, () -> x.tie(0, 1, 0));
        state("tie(0, 1, 0) once more", x, () -> x.tie(0, 1, 0));
        x.knot(29);
        state("tie(0, 1, 0) with 30, of which 29 are tied", x, () -> x.tie(0, 1, 0));
        due("count(1)", x.count(1), 30);
        RopeTimes last = mill(2);
        for (int rope = 0; rope < 29; rope++) {
            last.tie(0, 1, 0);
        }
        due("tie(1, 0, 0) with 29", last.tie(1, 0, 0), 29);
        state("tie(1, 0, 0) with 30", last, () -> last.tie(1, 0, 0));
    }

    // ---- Promise 4

    private static void promise4() {
        section("Promise 4:");
        sentence("- `w`: its length from now on");
        RopeTimes x = mill(2, rope(0, 1, 0), rope(1, 0, 50));
        x.cut(0, -50);
        due("told(0, 2)", x.told(0, 2), -50);
        due("about(0, 2)", x.about(0, 2), 50);
        due("told(1, 2) of the other", x.told(1, 2), 50);
        x.cut(0, -51);
        due("holds() with a ring of -1", x.holds(), false);
        x.cut(0, 99);
        due("holds() once it is out of it", x.holds(), true);
        due("most(0, 1)", x.most(0, 1), 99);
        x.knot(0);
        x.cut(0, -99);
        due("told(0, 3): it stays untied", x.told(0, 3), 0);
        due("holds() with it untied", x.holds(), true);
        x.knot(0);
        due("holds(): the length it was cut to", x.holds(), false);

        sentence("Returns the one before.");
        RopeTimes one = mill(2, rope(0, 1, 7));
        due("cut(0, -99)", one.cut(0, -99), 7);
        due("cut(0, 99)", one.cut(0, 99), -99);
        due("cut(0, 99)", one.cut(0, 99), 99);
        one.knot(0);
        due("cut(0, 0) untied", one.cut(0, 0), 99);
        due("cut(0, 5) untied", one.cut(0, 5), 0);

        sentence("Throws `IndexOutOfBoundsException` if there is no such rope");
        for (int no : outsideOf(1)) {
            outside("cut(" + no + ", 0)", one, () -> one.cut(no, 0));
        }
        RopeTimes full = fullMill();
        for (int no : outsideOf(30)) {
            outside("cut(" + no + ", 0) of 30", full, () -> full.cut(no, 0));
        }
        due("cut(29, 0)", full.cut(29, 0), 50);
        RopeTimes none = mill(12);
        outside("cut(0, 0) of none", none, () -> none.cut(0, 0));

        sentence("Throws `IllegalArgumentException` if w is not -99 to 99");
        for (int w : wrongLengths()) {
            argument("cut(0, " + w + ")", one, () -> one.cut(0, w));
        }
        due("told(0, 2)", one.told(0, 2), 5);
    }

    // ---- Promise 5

    private static void promise5() {
        section("Promise 5:");
        sentence("Unties a rope, or ties it again.");
        RopeTimes x = brokenMill();
        x.knot(1);
        due("told(1, 3)", x.told(1, 3), 0);
        due("told(0, 3) of the other", x.told(0, 3), 1);
        due("count(1)", x.count(1), 2);
        due("count(2)", x.count(2), 1);
        due("holds()", x.holds(), true);
        x.knot(1);
        due("told(1, 3) again", x.told(1, 3), 1);
        due("told(1, 2) again", x.told(1, 2), -1);
        due("count(2) again", x.count(2), 2);
        due("holds() again", x.holds(), false);
        RopeTimes full = fullMill();
        for (int rope = 0; rope < 30; rope++) {
            due("knot(" + rope + ")", full.knot(rope), false);
            due("count(2)", full.count(2), 29 - rope);
        }
        due("digest() with all tied again", tiedAgain(full).digest(), fullMill().digest());

        sentence("Returns whether it is tied then.");
        due("knot(0)", x.knot(0), false);
        due("knot(0)", x.knot(0), true);
        due("knot(0)", x.knot(0), false);

        sentence("Throws `IndexOutOfBoundsException` if there is no such rope");
        for (int no : outsideOf(2)) {
            outside("knot(" + no + ")", x, () -> x.knot(no));
        }
        for (int no : outsideOf(30)) {
            outside("knot(" + no + ") of 30", full, () -> full.knot(no));
        }
        RopeTimes none = mill(12);
        outside("knot(0) of none", none, () -> none.knot(0));
    }

    private static RopeTimes tiedAgain(RopeTimes x) {
        for (int rope = 0; rope < x.count(1); rope++) {
            x.knot(rope);
        }
        return x;
    }

    // ---- Promise 6

    private static void promise6() {
        section("Promise 6:");
        sentence("Tightens all ropes that are tied as far as they can be, one behind the other, by numbers:"
                + " each becomes as short as room() tells then.");
        RopeTimes ring = mill(2, rope(0, 1, 10), rope(1, 0, 10), rope(0, 1, 30));
        ring.knot(2);
        ring.tighten();
        due("told(0, 2): the first takes all", ring.told(0, 2), -10);
        due("told(1, 2): the second has nothing left", ring.told(1, 2), 10);
        due("told(2, 2): untied, it stays", ring.told(2, 2), 30);
        due("told(2, 3): untied, it stays so", ring.told(2, 3), 0);
        RopeTimes small = smallMill();
        RopeTimes byHand = smallMill();
        for (int rope = 0; rope < 5; rope++) {
            byHand.cut(rope, byHand.room(rope));
        }
        small.tighten();
        due("digest(): as by room() and cut()", small.digest(), byHand.digest());
        for (int rope = 0; rope < 5; rope++) {
            due("room(" + rope + ") then", small.room(rope), small.told(rope, 2));
        }
        RopeTimes open = mill(2, rope(0, 1, 99));
        open.tighten();
        due("told(0, 2): -99 without a way back", open.told(0, 2), -99);
        due("about(0, 2)", open.about(0, 2), 99);
        RopeTimes byOne = mill(2, rope(0, 1, -98));
        byOne.tighten();
        due("told(0, 2): shorter by one", byOne.told(0, 2), -99);
        RopeTimes wide = mill(3, rope(0, 1, 99), rope(1, 2, 99), rope(2, 0, 99));
        wide.tighten();
        due("told(0, 2): -99, a way back of 198", wide.told(0, 2), -99);
        due("told(1, 2): 99 less is left", wide.told(1, 2), 0);
        due("told(2, 2)", wide.told(2, 2), 99);
        RopeTimes full = fullMill();
        full.tighten();
        due("told(29, 2): the last of 30, of which 4 steps took all", full.told(29, 2), -97 + 3 * 49);

        sentence("Without a timetable nothing is changed.");
        RopeTimes broken = brokenMill();
        broken.tie(1, 2, 50);
        broken.tie(2, 0, 50);
        long before = broken.digest();
        due("tighten()", broken.tighten(), 0);
        due("digest()", broken.digest(), before);
        due("told(2, 2)", broken.told(2, 2), 50);
        due("holds()", broken.holds(), false);

        sentence("Returns by how much all are shorter.");
        due("tighten() of a new one", new RopeTimes().tighten(), 0);
        due("tighten() without ropes", mill(12).tighten(), 0);
        due("tighten() of one tied", mill(2, rope(0, 1, -99)).tighten(), 0);
        due("tighten() of one", mill(2, rope(0, 1, -98)).tighten(), 1);
        due("tighten() of a small one", smallMill().tighten(), 24);
        due("tighten() once it is tight", small.tighten(), 0);
        RopeTimes most = mill(2);
        for (int rope = 0; rope < 30; rope++) {
            most.tie(0, 1, 99);
        }
        due("tighten() of 30 by 198", most.tighten(), 5940);
        RopeTimes untied = mill(2, rope(0, 1, 99));
        untied.knot(0);
        due("tighten() of one that is untied", untied.tighten(), 0);
    }

    // ---- Promise 7

    private static void promise7() {
        section("Promise 7:");
        sentence("0 its a, 1 its b, 2 its length, 3 1 if it is tied, else 0,");
        RopeTimes x = mill(12, rope(0, 11, -99), rope(11, 0, 99), rope(3, 4, 0));
        x.knot(2);
        int[][] told = {{0, 11, -99, 1}, {11, 0, 99, 1}, {3, 4, 0, 0}};
        for (int rope = 0; rope < 3; rope++) {
            for (int what = 0; what < 4; what++) {
                due("told(" + rope + ", " + what + ")", x.told(rope, what), told[rope][what]);
            }
        }
        RopeTimes broken = brokenMill();
        due("told(1, 0) without a timetable", broken.told(1, 0), 1);
        due("told(1, 1) without a timetable", broken.told(1, 1), 0);
        due("told(1, 2) without a timetable", broken.told(1, 2), -1);
        due("told(1, 3) without a timetable", broken.told(1, 3), 1);

        sentence("4 1 if it is tied, and tight in the earliest timetable (the time of b is the time of a, and w),"
                + " else 0; 0 without a timetable");
        RopeTimes tight = mill(3, rope(0, 1, -5), rope(0, 1, -4), rope(1, 2, 0), rope(2, 1, 1), rope(0, 1, -5));
        tight.knot(4);
        int[] tights = {1, 0, 1, 0, 0};
        for (int rope = 0; rope < 5; rope++) {
            due("told(" + rope + ", 4)", tight.told(rope, 4), tights[rope]);
        }
        broken.tie(0, 2, 0);
        for (int rope = 0; rope < 3; rope++) {
            due("told(" + rope + ", 4) without a timetable", broken.told(rope, 4), 0);
        }

        sentence("Throws `IndexOutOfBoundsException` if there is no such rope, or what is not 0 to 4");
        for (int no : outsideOf(3)) {
            outside("told(" + no + ", 0)", x, () -> x.told(no, 0));
            outside("told(" + no + ", 4)", x, () -> x.told(no, 4));
        }
        for (int what : outsideOf(5)) {
            outside("told(0, " + what + ")", x, () -> x.told(0, what));
            outside("told(3, " + what + ")", x, () -> x.told(3, what));
            outside("told(2, " + what + ") untied", x, () -> x.told(2, what));
        }
        RopeTimes full = fullMill();
        for (int no : outsideOf(30)) {
            outside("told(" + no + ", 0) of 30", full, () -> full.told(no, 0));
        }
        due("told(29, 1) of 30", full.told(29, 1), 6);
    }

    // ---- Promise 8

    private static void promise8() {
        section("Promise 8:");
        sentence("0 ropes that are tied and go from it, 1 ropes that are tied and go to it,");
        RopeTimes x = mill(12);
        for (int rope = 0; rope < 30; rope++) {
            x.tie(11, 0, 1);
        }
        due("about(11, 0), all of 30", x.about(11, 0), 30);
        due("about(0, 1), all of 30", x.about(0, 1), 30);
        due("about(11, 1)", x.about(11, 1), 0);
        due("about(0, 0)", x.about(0, 0), 0);
        x.knot(0);
        x.knot(29);
        due("about(11, 0) with two untied", x.about(11, 0), 28);
        due("about(0, 1) with two untied", x.about(0, 1), 28);
        due("about(5, 0) of one that stands alone", x.about(5, 0), 0);
        due("about(5, 1) of one that stands alone", x.about(5, 1), 0);
        RopeTimes broken = brokenMill();
        due("about(0, 0) without a timetable", broken.about(0, 0), 1);
        due("about(0, 1) without a timetable", broken.about(0, 1), 1);
        due("about(2, 0) without a timetable", broken.about(2, 0), 0);

        sentence("2 its earliest time; -1 without a timetable");
        due("about(0, 2), as late as can be", chainMill(-99, true).about(0, 2), 1089);
        due("about(11, 2)", chainMill(-99, true).about(11, 2), 0);
        for (int turn = 0; turn < 3; turn++) {
            due("about(" + turn + ", 2) without a timetable", broken.about(turn, 2), -1);
        }
        broken.knot(0);
        due("about(1, 2) once there is one", broken.about(1, 2), 1);

        sentence("Throws `IndexOutOfBoundsException` if there is no such turn, or what is not 0 to 2");
        for (int no : outsideOf(3)) {
            outside("about(" + no + ", 0)", broken, () -> broken.about(no, 0));
            outside("about(" + no + ", 2)", broken, () -> broken.about(no, 2));
        }
        for (int what : outsideOf(3)) {
            outside("about(0, " + what + ")", broken, () -> broken.about(0, what));
            outside("about(3, " + what + ")", broken, () -> broken.about(3, what));
        }
        for (int no : outsideOf(12)) {
            outside("about(" + no + ", 0) of 12", x, () -> x.about(no, 0));
        }
    }

    // ---- Promise 9

    private static void promise9() {
        section("Promise 9:");
        sentence("0 turns, 1 ropes that were tied in all, 2 ropes that are tied,");
        RopeTimes full = fullMill();
        int[] ofNew = {0, 0, 0};
        int[] ofFull = {12, 30, 30};
        for (int what = 0; what < 3; what++) {
            due("count(" + what + ") of a new one", new RopeTimes().count(what), ofNew[what]);
            due("count(" + what + ") of a full one", full.count(what), ofFull[what]);
        }
        full.knot(29);
        due("count(0) with one untied", full.count(0), 12);
        due("count(1) with one untied", full.count(1), 30);
        due("count(2) with one untied", full.count(2), 29);

        sentence("3 rounds by which the earliest timetable is found (the last one as well, in which nothing is"
                + " changed), -1 without one,");
        due("count(3) of a new one", new RopeTimes().count(3), 1);
        due("count(3) without ropes", mill(12).count(3), 1);
        due("count(3) with nothing changed", mill(2, rope(0, 1, 0)).count(3), 1);
        due("count(3) with one change", mill(2, rope(0, 1, -1)).count(3), 2);
        due("count(3), the most", chainMill(-99, true).count(3), 12);
        due("count(3) without a timetable", brokenMill().count(3), -1);
        due("count(3) without one, 12 turns", ringMill(12, -1).count(3), -1);
        due("count(3) without one, 2 turns", mill(2, rope(0, 1, -99), rope(1, 0, -99)).count(3), -1);

        sentence("4 the last time of the earliest timetable, -1 without one, 0 without turns,");
        due("count(4) of a small one", smallMill().count(4), 7);
        due("count(4), the most", chainMill(-99, false).count(4), 1089);
        due("count(4) with all at 0", mill(12).count(4), 0);
        due("count(4) without a timetable", brokenMill().count(4), -1);
        due("count(4) without turns", new RopeTimes().count(4), 0);
        due("count(4) by the last turn", mill(12, rope(11, 0, -3)).count(4), 3);

        sentence("5 tight ropes, 0 without a timetable,");
        RopeTimes all = mill(2);
        for (int rope = 0; rope < 30; rope++) {
            all.tie(0, 1, -5);
        }
        due("count(5), all of 30", all.count(5), 30);
        all.cut(29, -4);
        all.knot(0);
        due("count(5), all but one that is longer, and one untied", all.count(5), 28);
        due("count(5) of none", fullMill().count(5), 0);
        due("count(5) of a new one", new RopeTimes().count(5), 0);
        RopeTimes broken = brokenMill();
        broken.tie(1, 2, 0);
        due("count(5) without a timetable", broken.count(5), 0);

        sentence("6 the length of a short ring, 0 without any");
        due("count(6) of a new one", new RopeTimes().count(6), 0);
        due("count(6) of a full one", fullMill().count(6), 0);
        due("count(6), the least", broken.count(6), 2);
        due("count(6), the most", ringMill(12, -1).count(6), 12);
        broken.knot(0);
        due("count(6) with the ring untied", broken.count(6), 0);

        sentence("Throws `IndexOutOfBoundsException` if what is not 0 to 6");
        for (int what : outsideOf(7)) {
            outside("count(" + what + ")", full, () -> full.count(what));
            outside("count(" + what + ") without a timetable", broken, () -> broken.count(what));
        }
    }

    // ---- Promise 10

    private static void promise10() {
        section("Promise 10:");
        sentence("Returns whether there is a timetable.");
        due("holds() of a new one", new RopeTimes().holds(), true);
        due("holds() without ropes", mill(12).holds(), true);
        due("holds() of a full one", fullMill().holds(), true);
        due("holds() with a ring of 0, of 12", ringMill(12, 0).holds(), true);
        due("holds() with a ring of -1, of 12", ringMill(12, -1).holds(), false);
        due("holds() with a ring of 0, of 2", ringMill(2, 0).holds(), true);
        due("holds() with a ring of -1, of 2", ringMill(2, -1).holds(), false);
        RopeTimes x = brokenMill();
        x.turn();
        x.tie(2, 3, 99);
        due("holds() with more beside the ring", x.holds(), false);
        x.cut(1, 0);
        due("holds() with the ring let out", x.holds(), true);
    }

    // ---- Promise 11

    private static void promise11() {
        section("Promise 11:");
        sentence("Returns its time at the latest ahead of this end.");
        RopeTimes x = smallMill();
        int[] atSeven = {0, 4, 7, 7};
        for (int turn = 0; turn < 4; turn++) {
            due("late(" + turn + ", 7): the least end", x.late(turn, 7), atSeven[turn]);
            due("late(" + turn + ", 9999): the greatest", x.late(turn, 9999), atSeven[turn] + 9992);
        }
        due("late(0, 0) of a turn alone", mill(1).late(0, 0), 0);
        due("late(11, 9999) of a turn alone", mill(12).late(11, 9999), 9999);
        due("late(0, 0) of all at 0", mill(2, rope(0, 1, 0)).late(0, 0), 0);

        sentence("Throws `IndexOutOfBoundsException` if there is no such turn");
        for (int no : outsideOf(4)) {
            outside("late(" + no + ", 10)", x, () -> x.late(no, 10));
        }
        RopeTimes twelve = mill(12);
        for (int no : outsideOf(12)) {
            outside("late(" + no + ", 10) of 12", twelve, () -> twelve.late(no, 10));
        }

        sentence("Throws `IllegalArgumentException` if end is not 0 to 9999");
        for (int end : new int[] {-1, 10000, LOWEST, HIGHEST}) {
            argument("late(0, " + end + ")", x, () -> x.late(0, end));
            argument("late(11, " + end + ") of 12", twelve, () -> twelve.late(11, end));
        }
        due("late(11, 0) of 12", twelve.late(11, 0), 0);

        sentence("Throws `IllegalStateException` if there is no timetable, or none that is over by then");
        RopeTimes broken = brokenMill();
        for (int turn = 0; turn < 3; turn++) {
            int each = turn;
            state("late(" + turn + ", 9999) without a timetable", broken, () -> broken.late(each, 9999));
            state("late(" + turn + ", 0) without a timetable", broken, () -> broken.late(each, 0));
        }
        for (int turn = 0; turn < 4; turn++) {
            int each = turn;
            state("late(" + turn + ", 6)", x, () -> x.late(each, 6));
            state("late(" + turn + ", 0)", x, () -> x.late(each, 0));
        }
        RopeTimes last = chainMill(-99, true);
        state("late(11, 1088): one turn comes at 1089", last, () -> last.late(11, 1088));
        due("late(11, 1089)", last.late(11, 1089), 0);
    }

    // ---- Promise 12

    private static void promise12() {
        section("Promise 12:");
        sentence("Returns the longest difference from a to b; 99999 without a bound.");
        RopeTimes x = chainMill(99, true);
        due("most(0, 11), the most", x.most(0, 11), 1089);
        due("most(11, 0) without a bound", x.most(11, 0), 99999);
        due("most(0, 0)", x.most(0, 0), 0);
        due("most(11, 11)", x.most(11, 11), 0);
        due("most(0, 11), the least", chainMill(-99, true).most(0, 11), -1089);
        x.knot(5);
        due("most(0, 11) with the way untied", x.most(0, 11), 99999);
        due("most(0, 5) ahead of it", x.most(0, 5), 495);
        due("most(6, 11) behind it", x.most(6, 11), 495);
        RopeTimes apart = mill(3, rope(1, 0, -99));
        due("most(2, 0): no way, though there is one from 1", apart.most(2, 0), 99999);
        due("most(0, 2)", apart.most(0, 2), 99999);
        due("most(0, 1): none back", apart.most(0, 1), 99999);

        sentence("Throws `IndexOutOfBoundsException` if there is no such turn");
        for (int no : outsideOf(12)) {
            outside("most(" + no + ", 0)", x, () -> x.most(no, 0));
            outside("most(0, " + no + ")", x, () -> x.most(0, no));
            outside("most(" + no + ", " + no + ")", x, () -> x.most(no, no));
        }
        for (int no : outsideOf(3)) {
            outside("most(" + no + ", 0) of 3", apart, () -> apart.most(no, 0));
            outside("most(0, " + no + ") of 3", apart, () -> apart.most(0, no));
        }

        sentence("Throws `IllegalStateException` if there is no timetable");
        RopeTimes broken = brokenMill();
        for (int turn = 0; turn < 3; turn++) {
            int each = turn;
            state("most(" + turn + ", " + turn + ")", broken, () -> broken.most(each, each));
            state("most(" + turn + ", 2)", broken, () -> broken.most(each, 2));
        }
        broken.knot(0);
        due("most(1, 0) once there is one", broken.most(1, 0), -1);
    }

    // ---- Promise 13

    private static void promise13() {
        section("Promise 13:");
        sentence("Returns the least length of it, -99 or more, with which there would be a timetable, all others as"
                + " they are.");
        due("room(0) without a way back", mill(2, rope(0, 1, 99)).room(0), -99);
        for (int back = 97; back <= 99; back++) {
            due("room(0), " + back + " back", mill(2, rope(0, 1, 50), rope(1, 0, back)).room(0), -back);
        }
        RopeTimes far = mill(3, rope(0, 1, 0), rope(1, 2, 99), rope(2, 0, 1));
        due("room(0), 100 back", far.room(0), -99);
        far.cut(1, -99);
        far.cut(0, 99);
        due("room(0), -98 back", far.room(0), 98);
        far.cut(2, 0);
        due("room(0), -99 back: none to give", far.room(0), 99);
        RopeTimes small = smallMill();
        long before = small.digest();
        for (int rope = 0; rope < 5; rope++) {
            RopeTimes tried = smallMill();
            int least = small.room(rope);
            tried.cut(rope, least);
            due("holds() with rope " + rope + " so long", tried.holds(), true);
            tried.cut(rope, least - 1);
            due("holds() with it one less", tried.holds(), false);
        }
        due("digest(): all are as they were", small.digest(), before);
        RopeTimes beside = mill(2, rope(0, 1, -5), rope(1, 0, 9), rope(0, 1, 60));
        due("room(2): the shorter one beside it stays", beside.room(2), -9);

        sentence("Throws `IndexOutOfBoundsException` if there is no such rope");
        for (int no : outsideOf(5)) {
            outside("room(" + no + ")", small, () -> small.room(no));
        }
        RopeTimes full = fullMill();
        for (int no : outsideOf(30)) {
            outside("room(" + no + ") of 30", full, () -> full.room(no));
        }
        due("room(29) of 30", full.room(29), -99);

        sentence("Throws `IllegalStateException` if it is not tied, or there is no timetable");
        small.knot(0);
        state("room(0) untied", small, () -> small.room(0));
        due("room(1) beside it", small.room(1), -22);
        small.knot(0);
        due("room(0) tied again", small.room(0), 4);
        RopeTimes broken = brokenMill();
        broken.tie(0, 2, 9);
        state("room(0) without a timetable", broken, () -> broken.room(0));
        state("room(2) without one, though it is in no ring", broken, () -> broken.room(2));
        broken.knot(2);
        state("room(2) untied, without one", broken, () -> broken.room(2));
    }

    // ---- Promise 14

    private static void promise14() {
        section("Promise 14:");
        sentence("Returns whether there would be a timetable, if such a rope was tied, too (also with 30; nothing is"
                + " changed).");
        RopeTimes full = fullMill();
        long before = full.digest();
        due("would(1, 0, -50) with 30", full.would(1, 0, -50), true);
        due("would(1, 0, -51) with 30", full.would(1, 0, -51), false);
        due("would(0, 2, -99) with 30", full.would(0, 2, -99), true);
        due("would(11, 0, 99) with 30", full.would(11, 0, 99), true);
        due("digest(): nothing is changed", full.digest(), before);
        due("count(1)", full.count(1), 30);
        RopeTimes open = mill(2);
        due("would(0, 1, -99) without ropes", open.would(0, 1, -99), true);
        open.tie(0, 1, -99);
        due("would(1, 0, 99): a ring of 0", open.would(1, 0, 99), true);
        due("would(1, 0, 98): a ring of -1", open.would(1, 0, 98), false);
        due("would(0, 1, 0): the other one too", open.would(0, 1, 0), true);
        due("tie(1, 0, 99): it took no number", open.tie(1, 0, 99), 1);
        due("would(1, 2, 99) without a timetable", brokenMill().would(1, 2, 99), false);
        due("would(0, 1, 99) without a timetable", brokenMill().would(0, 1, 99), false);

        sentence("Throws `IndexOutOfBoundsException` if there is no such turn");
        for (int no : outsideOf(12)) {
            outside("would(" + no + ", 0, 0)", full, () -> full.would(no, 0, 0));
            outside("would(0, " + no + ", 0)", full, () -> full.would(0, no, 0));
            outside("would(" + no + ", " + no + ", 0)", full, () -> full.would(no, no, 0));
        }
        for (int no : outsideOf(2)) {
            outside("would(" + no + ", 0, 0) of 2", open, () -> open.would(no, 0, 0));
            outside("would(0, " + no + ", 0) of 2", open, () -> open.would(0, no, 0));
        }

        sentence("Throws `IllegalArgumentException` if both are the same, or w is not -99 to 99");
        RopeTimes broken = brokenMill();
        argument("would(0, 0, 0)", open, () -> open.would(0, 0, 0));
        argument("would(11, 11, 99) of 12", full, () -> full.would(11, 11, 99));
        argument("would(2, 2, 0) without a timetable", broken, () -> broken.would(2, 2, 0));
        for (int w : wrongLengths()) {
            argument("would(0, 1, " + w + ")", open, () -> open.would(0, 1, w));
            argument("would(0, 1, " + w + ") without a timetable", broken, () -> broken.would(0, 1, w));
        }
    }

    // ---- Promise 15

    private static void promise15() {
        section("Promise 15:");
        sentence("Returns the turn that stands there, if all stand by their earliest times, of as much by their"
                + " numbers.");
        RopeTimes same = mill(12);
        RopeTimes up = chainMill(-99, true);
        for (int place = 0; place < 12; place++) {
            due("at(" + place + ") with all at 0", same.at(place), place);
            due("at(" + place + ") with the last turn first", up.at(place), 11 - place);
        }
        RopeTimes some = mill(5, rope(0, 1, -5), rope(3, 1, -5), rope(4, 1, -2));
        int[] order = {1, 2, 4, 0, 3};
        for (int place = 0; place < 5; place++) {
            due("at(" + place + "), two and two of as much", some.at(place), order[place]);
        }
        due("at(0) of a turn alone", mill(1).at(0), 0);

        sentence("Throws `IndexOutOfBoundsException` if there is no such place");
        for (int no : outsideOf(5)) {
            outside("at(" + no + ")", some, () -> some.at(no));
        }
        for (int no : outsideOf(12)) {
            outside("at(" + no + ") of 12", up, () -> up.at(no));
        }
        RopeTimes none = new RopeTimes();
        for (int no : outsideOf(0)) {
            outside("at(" + no + ") without turns", none, () -> none.at(no));
        }

        sentence("Throws `IllegalStateException` if there is no timetable");
        RopeTimes broken = brokenMill();
        for (int place = 0; place < 3; place++) {
            int each = place;
            state("at(" + place + ")", broken, () -> broken.at(each));
        }
        broken.knot(1);
        due("at(2) once there is one", broken.at(2), 2);
    }

    // ---- Promise 16

    private static void promise16() {
        section("Promise 16:");
        sentence("Looks for the rope, of those that are tied, that had best be untied alone, so that the last time"
                + " of the earliest timetable is the least.");
        RopeTimes chain = mill(6, rope(0, 1, -5), rope(1, 2, -5), rope(2, 3, -5), rope(3, 4, -5), rope(4, 5, -5));
        due("advise(): the middle one", chain.advise(), 2);
        chain.knot(2);
        due("advise(): alone, none is of use then", chain.advise(), -1);
        chain.knot(2);
        chain.tie(2, 5, -99);
        due("advise(): the one that asks for most", chain.advise(), 5);
        RopeTimes last = mill(12, rope(0, 1, -5), rope(11, 0, -99));
        due("advise(): the last rope, of the last turn", last.advise(), 1);
        RopeTimes full = fullMill();
        full.cut(29, -99);
        due("advise(): the last of 30", full.advise(), 29);
        full.knot(29);
        due("advise(): that one is untied", full.advise(), -1);

        sentence("Returns this, of several the one with the smallest number;");
        due("advise(): 1 and 2 leave as much", mill(5, rope(0, 1, -5), rope(1, 2, -5), rope(2, 3, -5),
                rope(3, 4, -5)).advise(), 1);
        due("advise(): 0 and 1 leave 1", mill(3, rope(0, 1, -1), rope(1, 2, -1)).advise(), 0);

        sentence("-1 if by none it is less than now;");
        due("advise(): two ropes ask for as much", mill(2, rope(0, 1, -5), rope(0, 1, -5)).advise(), -1);
        due("advise(): one less by 1", mill(2, rope(0, 1, -5), rope(0, 1, -6)).advise(), 1);
        due("advise(): two turns come last", mill(4, rope(0, 1, -5), rope(2, 3, -5)).advise(), -1);
        due("advise(): all at 0", fullMill().advise(), -1);
        due("advise() without ropes", mill(12).advise(), -1);
        due("advise() without turns", new RopeTimes().advise(), -1);

        sentence("without a timetable now any rope by which there is one counts, -1 if there is none");
        due("advise(): both do, the second leaves less", brokenMill().advise(), 1);
        due("advise(): both leave as much", mill(2, rope(0, 1, -3), rope(1, 0, -3)).advise(), 0);
        due("advise(): the last time is 99 then", mill(4, rope(0, 1, -1), rope(1, 0, 0), rope(2, 3, -99)).advise(), 0);
        due("advise(): the last time is 1089 then", longBroken().advise(), 22);
        due("advise(): two rings apart", mill(4, rope(0, 1, -1), rope(1, 0, 0), rope(2, 3, -1),
                rope(3, 2, 0)).advise(), -1);
        due("advise(): two rings by one rope", mill(3, rope(0, 1, 1), rope(1, 2, -9), rope(2, 0, 1),
                rope(2, 1, 8)).advise(), 1);
        due("advise(): two ropes alike", mill(2, rope(0, 1, -1), rope(0, 1, -1), rope(1, 0, 0)).advise(), 2);

        sentence("(nothing is changed).");
        RopeTimes[] mills = {smallMill(), brokenMill(), fullMill(), chain, new RopeTimes()};
        for (RopeTimes x : mills) {
            long before = x.digest();
            int first = x.advise();
            due("digest()", x.digest(), before);
            due("advise() again", x.advise(), first);
            due("late(0, ..) is as it was, or thrown", thrownBy(() -> x.late(0, 9999)).equals("nothing"),
                    x.holds() && x.count(0) > 0);
        }
    }

    /** Each turn is 99 ahead of the next one by two ropes, so that only the last rope, in a ring of -1, counts. */
    private static RopeTimes longBroken() {
        RopeTimes x = chainMill(-99, true);
        for (int turn = 0; turn < 11; turn++) {
            x.tie(turn, turn + 1, -99);
        }
        x.tie(1, 0, 98);
        return x;
    }

    // ---- Promise 17

    private static void promise17() {
        section("Promise 17:");
        sentence("Returns the mean of all earliest times; 0 without turns, or without a timetable.");
        dueDouble("mean() without turns", new RopeTimes().mean(), 0.0);
        dueDouble("mean() without a timetable", brokenMill().mean(), 0.0);
        dueDouble("mean() without a timetable, one turn at 99", mill(4, rope(0, 1, 0), rope(1, 0, -1),
                rope(2, 3, -99)).mean(), 0.0);
        dueDouble("mean() of a turn alone", mill(1).mean(), 0.0);
        dueDouble("mean() of 1 by 12, not cut", mill(12, rope(11, 0, -1)).mean(), 1.0 / 12.0);
        dueDouble("mean() of 2 by 3, not cut", mill(3, rope(0, 1, -2)).mean(), 2.0 / 3.0);
        dueDouble("mean(), the most", chainMill(-99, true).mean(), 544.5);
    }

    // ---- Promise 18

    private static void promise18() {
        section("Promise 18:");
        sentence("A number d starts with 1553; for each of the following numbers x, d becomes d * 31 + x, which"
                + " wraps around as a 64-bit integer:");
        RopeTimes[] mills = {new RopeTimes(), mill(1), smallMill(), brokenMill(), fullMill(), chainMill(-99, true)};
        for (int each = 0; each < mills.length; each++) {
            due("digest() of mill " + each, mills[each].digest(), sumOf(mills[each]).longValue());
            due("digest() of mill " + each + " needs no wrap-around", sumOf(mills[each]).bitLength() < 64, each == 0);
        }
        due("digest() that wraps below 0", digestBelowZero(), true);

        sentence("what count() tells, in its order; for each turn what about() tells; for each rope what told()"
                + " tells;");
        due("digest() of a new one: its counts alone", new RopeTimes().digest(),
                digestOf(1553, 0, 0, 0, 1, 0, 0, 0));
        due("digest() of one without a timetable", brokenMill().digest(), digestOf(1553, 3, 2, 2, -1, -1, 0, 2,
                1, 1, -1, 1, 1, -1, 0, 0, -1, 0, 1, 0, 1, 0, 1, 0, -1, 1, 0));
        RopeTimes untied = mill(2, rope(1, 0, 7));
        untied.knot(0);
        due("digest() with a rope that is untied", untied.digest(), digestOf(1553, 2, 1, 0, 1, 0, 0, 0,
                0, 0, 0, 0, 0, 0, 1, 0, 7, 0, 0, 0, 99999, 99999, 0));

        sentence("if there is a timetable, for each turn and each turn what most() tells (all in their order).");
        due("digest() of a turn alone", mill(1).digest(), digestOf(1553, 1, 0, 0, 1, 0, 0, 0, 0, 0, 0, 0));
        due("digest() of two, one of them bound", mill(2, rope(0, 1, -5)).digest(),
                digestOf(1553, 2, 1, 1, 2, 5, 1, 0, 1, 0, 5, 0, 1, 0, 0, 1, -5, 1, 1, 0, -5, 99999, 0));
        RopeTimes ring = mill(2, rope(0, 1, 0), rope(1, 0, -1));
        due("digest() without a timetable: no most()", ring.digest(),
                digestOf(1553, 2, 2, 2, -1, -1, 0, 2, 1, 1, -1, 1, 1, -1, 0, 1, 0, 1, 0, 1, 0, -1, 1, 0));
    }

    private static boolean digestBelowZero() {
        boolean below = false;
        for (int turns = 2; turns <= 12; turns++) {
            below |= mill(turns).digest() < 0;
        }
        return below;
    }

    private static long digestOf(long start, long... numbers) {
        long d = start;
        for (long x : numbers) {
            d = d * 31 + x;
        }
        return d;
    }

    /** The checksum as it is without the wrap-around, from what the other calls tell. */
    private static BigInteger sumOf(RopeTimes x) {
        List<Integer> numbers = new ArrayList<>();
        for (int what = 0; what < 7; what++) {
            numbers.add(x.count(what));
        }
        for (int turn = 0; turn < x.count(0); turn++) {
            for (int what = 0; what < 3; what++) {
                numbers.add(x.about(turn, what));
            }
        }
        for (int rope = 0; rope < x.count(1); rope++) {
            for (int what = 0; what < 5; what++) {
                numbers.add(x.told(rope, what));
            }
        }
        for (int a = 0; x.holds() && a < x.count(0); a++) {
            for (int b = 0; b < x.count(0); b++) {
                numbers.add(x.most(a, b));
            }
        }
        BigInteger d = BigInteger.valueOf(1553);
        for (int number : numbers) {
            d = d.multiply(BigInteger.valueOf(31)).add(BigInteger.valueOf(number));
        }
        return d;
    }
}
