/** Each promise of ../shared/DOC.md by hand: ordinary inputs, the edges that it names, and wrong inputs. */
public final class PromiseTests {
    private static final int LOWEST = Integer.MIN_VALUE;
    private static final int HIGHEST = Integer.MAX_VALUE;

    private static int wrong = 0;
    private static int checks = 0;
    private static String part = "";

    private interface Call {
        void run();
    }

    public static void main(String[] args) {
        promise1NewObject();
        promise2Turn();
        promise3Tie();
        promise4Cut();
        promise5Knot();
        promise6Tighten();
        promise7Told();
        promise8About();
        promise9Count();
        promise9Rounds();
        promise9ShortRing();
        promise10Holds();
        promise11Late();
        promise12Most();
        promise13Room();
        promise14Would();
        promise15At();
        promise16Advise();
        promise17Mean();
        promise18Digest();
        System.out.println(wrong + " of " + checks + " checks are wrong");
        if (wrong != 0) {
            System.exit(1);
        }
    }

    // ---- how a check is told

    private static void due(String call, long got, long want) {
        checks++;
        if (got != want) {
            wrong++;
            System.out.println(part + ": " + call + " answered " + got + ", due is " + want);
        }
    }

    private static void due(String call, boolean got, boolean want) {
        due(call, got ? 1 : 0, want ? 1 : 0);
    }

    private static void dueDouble(String call, double got, double want) {
        checks++;
        if (Double.compare(got, want) != 0) {
            wrong++;
            System.out.println(part + ": " + call + " answered " + got + ", due is " + want);
        }
    }

    /** The call throws just this exception, and changes nothing. */
    private static void dueThrows(String call, RopeTimes x, Class<?> want, Call run) {
        long before = x.digest();
        Class<?> got = null;
        try {
            run.run();
        } catch (RuntimeException e) {
            got = e.getClass();
        }
        checks++;
        if (got != want) {
            wrong++;
            System.out.println(part + ": " + call + " threw " + got + ", due is " + want);
        }
        due("digest() after " + call, x.digest(), before);
    }

    private static void outside(String call, RopeTimes x, Call run) {
        dueThrows(call, x, IndexOutOfBoundsException.class, run);
    }

    private static void argument(String call, RopeTimes x, Call run) {
        dueThrows(call, x, IllegalArgumentException.class, run);
    }

    private static void state(String call, RopeTimes x, Call run) {
        dueThrows(call, x, IllegalStateException.class, run);
    }

    // ---- mills

    private static RopeTimes mill(int turns) {
        RopeTimes x = new RopeTimes();
        for (int turn = 0; turn < turns; turn++) {
            x.turn();
        }
        return x;
    }

    /** Ropes 0: 0 to 1, 10; 1: 1 to 0, -4; 2: 2 to 1, -3; 3: 3 to 2, 5; 4: 0 to 3, 20. Times 0 4 7 2. */
    private static RopeTimes smallMill() {
        RopeTimes x = mill(4);
        x.tie(0, 1, 10);
        x.tie(1, 0, -4);
        x.tie(2, 1, -3);
        x.tie(3, 2, 5);
        x.tie(0, 3, 20);
        return x;
    }

    /** Two turns in a ring of -1: no timetable. A third one stands alone. */
    private static RopeTimes brokenMill() {
        RopeTimes x = mill(3);
        x.tie(0, 1, 0);
        x.tie(1, 0, -1);
        return x;
    }

    private static RopeTimes fullMill() {
        RopeTimes x = mill(12);
        for (int rope = 0; rope < 30; rope++) {
            x.tie(rope % 12, (rope + 1) % 12, 50);
        }
        return x;
    }

    // ---- turns and ropes

    private static void promise1NewObject() {
        part = "promise 1";
        RopeTimes x = new RopeTimes();
        due("count(0)", x.count(0), 0);
        due("count(1)", x.count(1), 0);
        due("count(2)", x.count(2), 0);
        due("holds()", x.holds(), true);
        outside("about(0, 0)", x, () -> x.about(0, 0));
        outside("told(0, 0)", x, () -> x.told(0, 0));
        RopeTimes other = new RopeTimes();
        other.turn();
        due("count(0) of the first", x.count(0), 0);
    }

    private static void promise2Turn() {
        part = "promise 2";
        RopeTimes x = new RopeTimes();
        for (int turn = 0; turn < 12; turn++) {
            due("turn()", x.turn(), turn);
            due("count(0)", x.count(0), turn + 1);
            due("about(" + turn + ", 2)", x.about(turn, 2), 0);
        }
        state("turn()", x, x::turn);
        due("count(0)", x.count(0), 12);
        RopeTimes broken = brokenMill();
        due("turn() without a timetable", broken.turn(), 3);
        due("holds()", broken.holds(), false);
        RopeTimes small = smallMill();
        small.turn();
        due("about(2, 2)", small.about(2, 2), 7);
        due("most(4, 0)", small.most(4, 0), 99999);
        due("most(4, 4)", small.most(4, 4), 0);
    }

    private static void promise3Tie() {
        part = "promise 3";
        RopeTimes x = mill(3);
        due("tie(0, 1, 99)", x.tie(0, 1, 99), 0);
        due("tie(1, 0, -99)", x.tie(1, 0, -99), 1);
        due("tie(0, 1, 99)", x.tie(0, 1, 99), 2);
        due("told(2, 2)", x.told(2, 2), 99);
        due("told(2, 3)", x.told(2, 3), 1);
        due("count(1)", x.count(1), 3);
        outside("tie(3, 0, 1)", x, () -> x.tie(3, 0, 1));
        outside("tie(0, 3, 1)", x, () -> x.tie(0, 3, 1));
        outside("tie(-1, 0, 1)", x, () -> x.tie(-1, 0, 1));
        outside("tie(0, -1, 1)", x, () -> x.tie(0, -1, 1));
        outside("tie(LOWEST, HIGHEST, 1)", x, () -> x.tie(LOWEST, HIGHEST, 1));
        outside("tie(3, 3, 100)", x, () -> x.tie(3, 3, 100));
        argument("tie(1, 1, 0)", x, () -> x.tie(1, 1, 0));
        argument("tie(0, 1, 100)", x, () -> x.tie(0, 1, 100));
        argument("tie(0, 1, -100)", x, () -> x.tie(0, 1, -100));
        argument("tie(0, 1, LOWEST)", x, () -> x.tie(0, 1, LOWEST));
        argument("tie(0, 1, HIGHEST)", x, () -> x.tie(0, 1, HIGHEST));
        RopeTimes full = fullMill();
        due("count(1)", full.count(1), 30);
        state("tie(0, 1, 0) with 30", full, () -> full.tie(0, 1, 0));
        outside("tie(0, 12, 0) with 30", full, () -> full.tie(0, 12, 0));
        argument("tie(0, 0, 0) with 30", full, () -> full.tie(0, 0, 0));
        argument("tie(0, 1, 100) with 30", full, () -> full.tie(0, 1, 100));
        full.knot(29);
        state("tie(0, 1, 0) with 30, one of them untied", full, () -> full.tie(0, 1, 0));
    }

    private static void promise4Cut() {
        part = "promise 4";
        RopeTimes x = smallMill();
        due("cut(1, -10)", x.cut(1, -10), -4);
        due("about(1, 2)", x.about(1, 2), 10);
        due("cut(1, -11)", x.cut(1, -11), -10);
        due("holds()", x.holds(), false);
        due("cut(1, 99)", x.cut(1, 99), -11);
        due("cut(1, -99)", x.cut(1, -99), 99);
        due("told(1, 2)", x.told(1, 2), -99);
        x.knot(1);
        due("cut(1, 3) untied", x.cut(1, 3), -99);
        due("told(1, 2)", x.told(1, 2), 3);
        due("told(1, 3)", x.told(1, 3), 0);
        outside("cut(5, 0)", x, () -> x.cut(5, 0));
        outside("cut(-1, 0)", x, () -> x.cut(-1, 0));
        outside("cut(HIGHEST, 100)", x, () -> x.cut(HIGHEST, 100));
        argument("cut(0, 100)", x, () -> x.cut(0, 100));
        argument("cut(0, -100)", x, () -> x.cut(0, -100));
        argument("cut(0, LOWEST)", x, () -> x.cut(0, LOWEST));
    }

    private static void promise5Knot() {
        part = "promise 5";
        RopeTimes x = brokenMill();
        due("knot(1)", x.knot(1), false);
        due("holds()", x.holds(), true);
        due("told(1, 3)", x.told(1, 3), 0);
        due("count(1)", x.count(1), 2);
        due("count(2)", x.count(2), 1);
        due("knot(1)", x.knot(1), true);
        due("holds()", x.holds(), false);
        due("told(1, 2)", x.told(1, 2), -1);
        due("told(1, 3)", x.told(1, 3), 1);
        outside("knot(2)", x, () -> x.knot(2));
        outside("knot(-1)", x, () -> x.knot(-1));
        outside("knot(LOWEST)", x, () -> x.knot(LOWEST));
        outside("knot(HIGHEST)", x, () -> x.knot(HIGHEST));
    }

    private static void promise6Tighten() {
        part = "promise 6";
        RopeTimes x = smallMill();
        due("tighten()", x.tighten(), 24);
        int[] lengths = {4, -4, -21, 5, 20};
        for (int rope = 0; rope < 5; rope++) {
            due("told(" + rope + ", 2)", x.told(rope, 2), lengths[rope]);
        }
        due("about(2, 2)", x.about(2, 2), 25);
        due("tighten() again", x.tighten(), 0);

        RopeTimes open = mill(2);
        open.tie(0, 1, 99);
        open.tie(0, 1, 7);
        open.knot(1);
        due("tighten() without a way back", open.tighten(), 198);
        due("told(0, 2)", open.told(0, 2), -99);
        due("told(1, 2) untied", open.told(1, 2), 7);
        due("about(0, 2)", open.about(0, 2), 99);

        RopeTimes ring = mill(2);
        ring.tie(0, 1, 10);
        ring.tie(1, 0, 10);
        due("tighten() of a ring", ring.tighten(), 20);
        due("told(0, 2): the first takes all", ring.told(0, 2), -10);
        due("told(1, 2)", ring.told(1, 2), 10);

        RopeTimes broken = brokenMill();
        broken.tie(1, 2, 50);
        long before = broken.digest();
        due("tighten() without a timetable", broken.tighten(), 0);
        due("digest()", broken.digest(), before);
        due("tighten() of a new one", new RopeTimes().tighten(), 0);
        due("tighten() of a full one", fullMill().tighten(), 3 * (4 * 149 + 4));
    }

    // ---- what there is

    private static void promise7Told() {
        part = "promise 7";
        RopeTimes x = smallMill();
        int[][] told = {{0, 1, 10, 1, 0}, {1, 0, -4, 1, 1}, {2, 1, -3, 1, 1}, {3, 2, 5, 1, 1}, {0, 3, 20, 1, 0}};
        for (int rope = 0; rope < told.length; rope++) {
            for (int what = 0; what < 5; what++) {
                due("told(" + rope + ", " + what + ")", x.told(rope, what), told[rope][what]);
            }
        }
        x.tie(1, 0, -4);
        due("told(5, 4) of one like it", x.told(5, 4), 1);
        x.knot(5);
        due("told(5, 3) untied", x.told(5, 3), 0);
        due("told(5, 4) untied", x.told(5, 4), 0);
        outside("told(6, 0)", x, () -> x.told(6, 0));
        outside("told(-1, 0)", x, () -> x.told(-1, 0));
        outside("told(0, 5)", x, () -> x.told(0, 5));
        outside("told(0, -1)", x, () -> x.told(0, -1));
        outside("told(HIGHEST, LOWEST)", x, () -> x.told(HIGHEST, LOWEST));
        RopeTimes broken = brokenMill();
        broken.tie(0, 2, 0);
        for (int rope = 0; rope < 3; rope++) {
            due("told(" + rope + ", 3) without a timetable", broken.told(rope, 3), 1);
            due("told(" + rope + ", 4) without a timetable", broken.told(rope, 4), 0);
        }
    }

    private static void promise8About() {
        part = "promise 8";
        RopeTimes x = smallMill();
        int[][] about = {{2, 1, 0}, {1, 2, 4}, {1, 1, 7}, {1, 1, 2}};
        for (int turn = 0; turn < about.length; turn++) {
            for (int what = 0; what < 3; what++) {
                due("about(" + turn + ", " + what + ")", x.about(turn, what), about[turn][what]);
            }
        }
        x.knot(1);
        due("about(1, 0) with one untied", x.about(1, 0), 0);
        due("about(0, 1) with one untied", x.about(0, 1), 0);
        due("about(1, 2) with one untied", x.about(1, 2), 0);
        outside("about(4, 0)", x, () -> x.about(4, 0));
        outside("about(-1, 0)", x, () -> x.about(-1, 0));
        outside("about(0, 3)", x, () -> x.about(0, 3));
        outside("about(0, -1)", x, () -> x.about(0, -1));
        outside("about(HIGHEST, HIGHEST)", x, () -> x.about(HIGHEST, HIGHEST));
        RopeTimes broken = brokenMill();
        due("about(0, 0) without a timetable", broken.about(0, 0), 1);
        due("about(0, 1) without a timetable", broken.about(0, 1), 1);
        due("about(0, 2) without a timetable", broken.about(0, 2), -1);
        due("about(2, 2) of one that stands alone", broken.about(2, 2), -1);
    }

    private static void promise9Count() {
        part = "promise 9";
        RopeTimes x = smallMill();
        int[] counts = {4, 5, 5, 2, 7, 3, 0};
        for (int what = 0; what < 7; what++) {
            due("count(" + what + ")", x.count(what), counts[what]);
        }
        RopeTimes none = new RopeTimes();
        int[] ofNone = {0, 0, 0, 1, 0, 0, 0};
        for (int what = 0; what < 7; what++) {
            due("count(" + what + ") of a new one", none.count(what), ofNone[what]);
        }
        RopeTimes broken = brokenMill();
        int[] ofBroken = {3, 2, 2, -1, -1, 0, 2};
        for (int what = 0; what < 7; what++) {
            due("count(" + what + ") without a timetable", broken.count(what), ofBroken[what]);
        }
        outside("count(7)", x, () -> x.count(7));
        outside("count(-1)", x, () -> x.count(-1));
        outside("count(LOWEST)", x, () -> x.count(LOWEST));
        outside("count(HIGHEST)", x, () -> x.count(HIGHEST));
        RopeTimes tight = mill(2);
        tight.tie(0, 1, -5);
        due("count(5) with the first rope tight", tight.count(5), 1);
        due("count(5) of a full one without tight ropes", fullMill().count(5), 0);
    }

    private static void promise9Rounds() {
        part = "promise 9, rounds";
        RopeTimes forth = mill(12);
        for (int turn = 0; turn < 11; turn++) {
            forth.tie(turn, turn + 1, -99);
        }
        due("count(3): one turn a round", forth.count(3), 12);
        due("count(4)", forth.count(4), 1089);
        due("about(0, 2)", forth.about(0, 2), 1089);
        RopeTimes back = mill(12);
        for (int turn = 10; turn >= 0; turn--) {
            back.tie(turn, turn + 1, -99);
        }
        due("count(3): all turns in one round", back.count(3), 2);
        due("count(4)", back.count(4), 1089);
        back.tie(11, 0, 99);
        due("count(3): a ring of -990", back.count(3), -1);
    }

    private static void promise9ShortRing() {
        part = "promise 9, short ring";
        RopeTimes x = mill(12);
        for (int turn = 0; turn < 11; turn++) {
            x.tie(turn, turn + 1, 1);
        }
        x.tie(11, 0, -11);
        due("count(6): a ring of 0", x.count(6), 0);
        x.cut(11, -12);
        due("count(6): all turns", x.count(6), 12);
        x.tie(3, 1, -3);
        due("count(6): a shorter one", x.count(6), 3);
        x.tie(7, 8, 4);
        x.tie(8, 7, -1);
        due("count(6): the better of two ropes", x.count(6), 3);
        x.cut(7, 0);
        due("count(6): two ropes", x.count(6), 2);
        x.knot(7);
        due("count(6): one of them untied", x.count(6), 3);
        RopeTimes full = fullMill();
        full.cut(29, -99);
        due("count(6) of a full one with a ring of 451", full.count(6), 0);
        for (int rope = 0; rope < 29; rope++) {
            full.cut(rope, rope % 12 == 5 ? -99 : 8);
        }
        due("count(6) of a full one", full.count(6), 12);
    }

    private static void promise10Holds() {
        part = "promise 10";
        RopeTimes x = mill(3);
        due("holds() without ropes", x.holds(), true);
        x.tie(0, 1, 5);
        x.tie(1, 2, 5);
        x.tie(2, 0, -10);
        due("holds() with a ring of 0", x.holds(), true);
        x.cut(2, -11);
        due("holds() with a ring of -1", x.holds(), false);
        x.knot(0);
        due("holds() with the ring untied", x.holds(), true);
        due("holds() of a new one", new RopeTimes().holds(), true);
    }

    // ---- what can be

    private static void promise11Late() {
        part = "promise 11";
        RopeTimes x = smallMill();
        int[] atTen = {3, 7, 10, 10};
        int[] atSeven = {0, 4, 7, 7};
        for (int turn = 0; turn < 4; turn++) {
            due("late(" + turn + ", 10)", x.late(turn, 10), atTen[turn]);
            due("late(" + turn + ", 7)", x.late(turn, 7), atSeven[turn]);
        }
        due("late(2, 9999)", x.late(2, 9999), 9999);
        due("late(0, 9999)", x.late(0, 9999), 9992);
        due("late(0, 0) without ropes", mill(1).late(0, 0), 0);
        RopeTimes ahead = mill(12);
        ahead.tie(0, 11, -5);
        due("late(11, 10) by the first of 12 turns", ahead.late(11, 10), 5);
        due("late(0, 10) of 12 turns", ahead.late(0, 10), 10);
        state("late(1, 6)", x, () -> x.late(1, 6));
        state("late(0, 0)", x, () -> x.late(0, 0));
        outside("late(4, 10)", x, () -> x.late(4, 10));
        outside("late(-1, 10)", x, () -> x.late(-1, 10));
        outside("late(4, -1)", x, () -> x.late(4, -1));
        argument("late(0, -1)", x, () -> x.late(0, -1));
        argument("late(0, 10000)", x, () -> x.late(0, 10000));
        argument("late(0, LOWEST)", x, () -> x.late(0, LOWEST));
        RopeTimes broken = brokenMill();
        state("late(2, 9999) without a timetable", broken, () -> broken.late(2, 9999));
        argument("late(0, 10000) without a timetable", broken, () -> broken.late(0, 10000));
        outside("late(3, 0) without a timetable", broken, () -> broken.late(3, 0));
    }

    private static void promise12Most() {
        part = "promise 12";
        RopeTimes x = smallMill();
        int[][] most = {{0, 10, 25, 20}, {-4, 0, 21, 16}, {-7, -3, 0, 13}, {-2, 2, 5, 0}};
        for (int a = 0; a < 4; a++) {
            for (int b = 0; b < 4; b++) {
                due("most(" + a + ", " + b + ")", x.most(a, b), most[a][b]);
            }
        }
        x.knot(4);
        due("most(0, 3) without a way", x.most(0, 3), 99999);
        due("most(3, 3)", x.most(3, 3), 0);
        x.tie(0, 1, 12);
        due("most(0, 1) with a longer rope", x.most(0, 1), 10);
        outside("most(4, 0)", x, () -> x.most(4, 0));
        outside("most(0, 4)", x, () -> x.most(0, 4));
        outside("most(-1, 0)", x, () -> x.most(-1, 0));
        outside("most(0, LOWEST)", x, () -> x.most(0, LOWEST));
        RopeTimes broken = brokenMill();
        state("most(2, 2) without a timetable", broken, () -> broken.most(2, 2));
        outside("most(3, 0) without a timetable", broken, () -> broken.most(3, 0));
    }

    private static void promise13Room() {
        part = "promise 13";
        RopeTimes x = smallMill();
        int[] rooms = {4, -10, -21, -13, 2};
        for (int rope = 0; rope < 5; rope++) {
            due("room(" + rope + ")", x.room(rope), rooms[rope]);
        }
        due("told(0, 2): nothing is changed", x.told(0, 2), 10);
        RopeTimes open = mill(2);
        open.tie(0, 1, 3);
        due("room(0) without a way back", open.room(0), -99);
        open.tie(1, 0, 99);
        due("room(0) with -99", open.room(0), -99);
        open.cut(1, 98);
        due("room(0) with -98", open.room(0), -98);
        open.tie(0, 1, 50);
        due("room(2) beside a tighter one", open.room(2), -98);
        RopeTimes far = mill(3);
        far.tie(0, 1, 99);
        far.tie(1, 2, 99);
        far.tie(2, 0, 5);
        due("room(2) with a way back of 198", far.room(2), -99);
        open.knot(0);
        state("room(0) untied", open, () -> open.room(0));
        outside("room(3)", open, () -> open.room(3));
        outside("room(-1)", open, () -> open.room(-1));
        outside("room(HIGHEST)", open, () -> open.room(HIGHEST));
        RopeTimes broken = brokenMill();
        state("room(0) without a timetable", broken, () -> broken.room(0));
        outside("room(2) without a timetable", broken, () -> broken.room(2));
    }

    private static void promise14Would() {
        part = "promise 14";
        RopeTimes x = smallMill();
        long before = x.digest();
        due("would(1, 2, 3)", x.would(1, 2, 3), true);
        due("would(1, 2, 2)", x.would(1, 2, 2), false);
        due("would(1, 2, 99)", x.would(1, 2, 99), true);
        due("would(1, 2, -99)", x.would(1, 2, -99), false);
        due("digest(): nothing is changed", x.digest(), before);
        RopeTimes open = mill(2);
        open.tie(0, 1, 0);
        due("would(0, 1, -99) without a way back", open.would(0, 1, -99), true);
        due("would(1, 0, 0)", open.would(1, 0, 0), true);
        due("would(1, 0, -1)", open.would(1, 0, -1), false);
        outside("would(2, 0, 0)", open, () -> open.would(2, 0, 0));
        outside("would(0, 2, 0)", open, () -> open.would(0, 2, 0));
        outside("would(-1, -1, 100)", open, () -> open.would(-1, -1, 100));
        argument("would(1, 1, 0)", open, () -> open.would(1, 1, 0));
        argument("would(0, 1, 100)", open, () -> open.would(0, 1, 100));
        argument("would(0, 1, -100)", open, () -> open.would(0, 1, -100));
        RopeTimes full = fullMill();
        due("would(1, 0, -50) with 30", full.would(1, 0, -50), true);
        due("would(1, 0, -51) with 30", full.would(1, 0, -51), false);
        due("count(1)", full.count(1), 30);
        due("would(0, 2, 99) without a timetable", brokenMill().would(0, 2, 99), false);
    }

    private static void promise15At() {
        part = "promise 15";
        RopeTimes x = smallMill();
        int[] order = {0, 3, 1, 2};
        for (int place = 0; place < 4; place++) {
            due("at(" + place + ")", x.at(place), order[place]);
        }
        x.turn();
        due("at(1) of one with as much", x.at(1), 4);
        for (int place = 0; place < 12; place++) {
            due("at(" + place + ") without ropes", mill(12).at(place), place);
        }
        outside("at(5)", x, () -> x.at(5));
        outside("at(-1)", x, () -> x.at(-1));
        outside("at(LOWEST)", x, () -> x.at(LOWEST));
        outside("at(HIGHEST)", x, () -> x.at(HIGHEST));
        RopeTimes broken = brokenMill();
        state("at(0) without a timetable", broken, () -> broken.at(0));
        outside("at(3) without a timetable", broken, () -> broken.at(3));
    }

    private static void promise16Advise() {
        part = "promise 16";
        RopeTimes x = smallMill();
        long before = x.digest();
        due("advise()", x.advise(), 1);
        due("digest(): nothing is changed", x.digest(), before);

        RopeTimes twice = mill(2);
        due("advise() without ropes", twice.advise(), -1);
        twice.tie(0, 1, -5);
        due("advise() with one", twice.advise(), 0);
        twice.tie(0, 1, -5);
        due("advise() with two alike", twice.advise(), -1);
        twice.cut(1, -4);
        due("advise() with a lesser one", twice.advise(), 0);
        twice.knot(0);
        due("advise() with the other untied", twice.advise(), 1);

        RopeTimes apart = mill(4);
        apart.tie(0, 1, -5);
        apart.tie(2, 3, -5);
        due("advise() with two last ones", apart.advise(), -1);
        apart.cut(1, -6);
        due("advise() with one last one", apart.advise(), 1);

        RopeTimes chain = mill(5);
        for (int turn = 0; turn < 4; turn++) {
            chain.tie(turn, turn + 1, -5);
        }
        due("advise(): the first of two that leave as much", chain.advise(), 1);

        RopeTimes broken = brokenMill();
        due("advise() without a timetable", broken.advise(), 1);
        broken.tie(2, 1, -9);
        due("advise(): untied, the second leaves less", broken.advise(), 1);
        broken.cut(0, -1);
        broken.cut(1, 0);
        due("advise(): both leave as much", broken.advise(), 0);
        broken.knot(2);
        broken.tie(0, 1, -1);
        due("advise(): two rings, one rope in both", broken.advise(), 1);
        broken.tie(1, 0, 0);
        due("advise(): no rope in all rings", broken.advise(), -1);

        RopeTimes same = mill(2);
        same.tie(0, 1, -3);
        same.tie(1, 0, -3);
        due("advise(): the first of two that break the ring", same.advise(), 0);
        due("advise() of a new one", new RopeTimes().advise(), -1);
        due("advise() of a full one", fullMill().advise(), -1);
        RopeTimes full = fullMill();
        full.cut(29, -99);
        due("advise() of a full one, the last rope", full.advise(), 29);
    }

    private static void promise17Mean() {
        part = "promise 17";
        RopeTimes x = smallMill();
        dueDouble("mean()", x.mean(), 3.25);
        dueDouble("mean() of a new one", new RopeTimes().mean(), 0.0);
        dueDouble("mean() without ropes", mill(12).mean(), 0.0);
        dueDouble("mean() without a timetable", brokenMill().mean(), 0.0);
        RopeTimes third = mill(3);
        third.tie(0, 1, -1);
        dueDouble("mean() of a third", third.mean(), 1.0 / 3.0);
    }

    private static void promise18Digest() {
        part = "promise 18";
        long none = 1553;
        int[] ofNone = {0, 0, 0, 1, 0, 0, 0};
        for (int x : ofNone) {
            none = none * 31 + x;
        }
        due("digest() of a new one", new RopeTimes().digest(), none);
        RopeTimes small = smallMill();
        due("digest()", small.digest(), digestOf(small));
        due("digest() again", small.digest(), digestOf(small));
        due("digest() without a timetable", brokenMill().digest(), digestOf(brokenMill()));
        due("digest() of a full one", fullMill().digest(), digestOf(fullMill()));
    }

    private static long digestOf(RopeTimes x) {
        long d = 1553;
        for (int what = 0; what <= 6; what++) {
            d = d * 31 + x.count(what);
        }
        for (int turn = 0; turn < x.count(0); turn++) {
            for (int what = 0; what <= 2; what++) {
                d = d * 31 + x.about(turn, what);
            }
        }
        for (int rope = 0; rope < x.count(1); rope++) {
            for (int what = 0; what <= 4; what++) {
                d = d * 31 + x.told(rope, what);
            }
        }
        for (int pair = 0; x.holds() && pair < x.count(0) * x.count(0); pair++) {
            d = d * 31 + x.most(pair / x.count(0), pair % x.count(0));
        }
        return d;
    }
}
