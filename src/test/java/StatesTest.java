/** Promises 25 to 35: REACHED, FAR, EXCLUDED, BEST PLAN, told PLANS. */
public final class StatesTest {
    private static final Check CHECK = new Check("StatesTest");
    private static final int ALL = (1 << 30) - 1;

    private static void due(int promise, String call, long got, long want) {
        CHECK.due(promise, call, got, want);
    }

    public static void main(String[] args) {
        reachedOnes();
        reachedAnew();
        justNotTooMany();
        tooMany();
        excluded();
        bestOfLeastCosts();
        bestOfFewest();
        bestOfLeastActions();
        bestOfNone();
        bestOfLong();
        spelled();
        judged();
        behindTold();
        mostPairs();
        CHECK.end();
    }

    private static void reachedOnes() {
        PlanLandmarks x = new PlanLandmarks();
        x.action(Check.bits(1), Check.bits(2), Check.bits(1), 1);
        x.action(Check.bits(0), Check.bits(1), Check.bits(0), 5);
        x.action(Check.bits(0), Check.bits(2), Check.bits(0), 7);
        x.action(Check.bits(2), Check.bits(3), 0, 99);
        x.put(0, 1);
        int[] states = {1, 2, 4, 12};
        int[] fars = {0, 5, 6, 105};
        due(25, "reached()", x.reached(), 4);
        for (int i = 0; i < 4; i++) {
            due(26, "state(" + i + ")", x.state(i), states[i]);
            due(27, "far(" + i + ")", x.far(i), fars[i]);
            due(28, "numberOf(" + states[i] + ")", x.numberOf(states[i]), i);
        }
        due(28, "numberOf(0)", x.numberOf(0), -1);
        due(28, "numberOf(ALL)", x.numberOf(ALL), -1);
        CHECK.refused(28, x, "");
        due(26, "state(4)", x.state(4), -5);
        due(26, "state(-1)", x.state(-1), -5);
        due(27, "far(4)", x.far(4), -5);
        due(27, "far(-1)", x.far(-1), -5);
        due(28, "numberOf(-1)", x.numberOf(-1), -16);
        due(28, "numberOf(2^30)", x.numberOf(1 << 30), -16);
        CHECK.refused(28, x, "-5 x 4 -6 x 2");
    }

    /** What is told of REACHED goes with START, GOAL and the ACTIONS of the moment. */
    private static void reachedAnew() {
        PlanLandmarks x = new PlanLandmarks();
        due(25, "reached()", x.reached(), 1);
        due(30, "best(0)", x.best(0), 0);
        x.put(1, 2);
        due(30, "best(0) behind put", x.best(0), -1);
        x.action(1, 2, 1, 3);
        due(25, "reached() behind action", x.reached(), 1);
        x.put(0, 1);
        due(25, "reached() behind put", x.reached(), 2);
        due(30, "best(0) behind put", x.best(0), 3);
        x.image();
        x.action(2, 1, 0, 4);
        due(25, "reached() behind action", x.reached(), 3);
        due(27, "far(2)", x.far(2), 7);
        x.macro(0, 1);
        due(25, "reached() behind macro", x.reached(), 3);
        due(29, "excluded(0)", x.excluded(0), ALL & ~3);
        x.put(1, 3);
        due(30, "best(0) behind put", x.best(0), 7);
        due(30, "best(1) by the MACRO", x.best(1), 1);
        due(31, "bestAt(0)", x.bestAt(0), 2);
        x.put(1, 1 << 5);
        Check.readText(x, "act 1+5-$9;start 1,4");
        due(25, "reached() behind read", x.reached(), 4);
        due(30, "best(0) behind read", x.best(0), 9);
        x.restore();
        due(25, "reached() behind restore", x.reached(), 2);
        due(30, "best(0) behind restore", x.best(0), 3);
        anewByMacroAndRead();
        due(29, "excluded(0) behind restore", x.excluded(0), ALL & ~1);
    }

    private static void anewByMacroAndRead() {
        PlanLandmarks x = new PlanLandmarks();
        x.action(1, 2, 1, 1);
        x.action(1, 8, 1, 1);
        x.action(2, 4, 2, 1);
        x.put(0, 1);
        x.put(1, 4);
        plan(x, 2, 0, 2);
        due(26, "state(2)", x.state(2), 8);
        x.macro(0, 2);
        plan(x, 2, 3);
        due(26, "state(3) behind macro", x.state(3), 4);
        Check.readText(x, "act 0+2-0$1");
        plan(x, 1, 4);
        Check.readText(x, "goal 3");
        plan(x, 1, 1);
        Check.readText(x, "start ");
        due(25, "reached() behind read of START", x.reached(), 1);
        due(30, "best(0) behind read of START", x.best(0), -1);
    }

    /** Rings of one FACT on each of 4, 3, 5 and 5 places: 300 STATES. */
    private static PlanLandmarks rings() {
        PlanLandmarks x = new PlanLandmarks();
        int from = 0;
        int start = 0;
        for (int places : new int[] {4, 3, 5, 5}) {
            for (int at = 0; at + 1 < places; at++) {
                x.action(1 << (from + at), 1 << (from + at + 1), 1 << (from + at), 1 + at);
            }
            start |= 1 << from;
            from += places;
        }
        x.put(0, start);
        return x;
    }

    private static void justNotTooMany() {
        PlanLandmarks x = rings();
        int last = Check.bits(3, 6, 11, 16);
        due(25, "reached() of 300", x.reached(), 300);
        due(26, "state(299)", x.state(299), last);
        due(26, "state(300)", x.state(300), -5);
        due(27, "far(299)", x.far(299), 6 + 3 + 10 + 10);
        due(28, "numberOf the last", x.numberOf(last), 299);
        due(29, "excluded(0) of 300", x.excluded(0), ALL & ~((1 << 17) - 1) | Check.bits(1, 2, 3));
        x.put(1, last);
        due(30, "best(1) of 300", x.best(1), 13);
        for (int i = 0; i < 13; i++) {
            due(31, "bestAt(" + i + ")", x.bestAt(i), i);
        }
        CHECK.refused(25, x, "-5 x 1");
    }

    private static void tooMany() {
        PlanLandmarks x = rings();
        int last = Check.bits(3, 6, 11, 16);
        x.action(last, 1 << 20, last, 1);
        due(25, "reached() of 301", x.reached(), 0);
        due(26, "state(0)", x.state(0), -5);
        due(27, "far(0)", x.far(0), -5);
        due(28, "numberOf(-1)", x.numberOf(-1), -15);
        due(28, "numberOf(0)", x.numberOf(0), -15);
        due(29, "excluded(30)", x.excluded(30), -1);
        due(29, "excluded(0)", x.excluded(0), -5);
        due(30, "best(0)", x.best(0), -15);
        due(31, "bestAt(0)", x.bestAt(0), -15);
        due(31, "bestAt(-1)", x.bestAt(-1), -15);
        x.row(0, 0, 5);
        due(32, "spell(0)", x.spell(0), -5);
        CHECK.refused(30, x, "-1 x 1 -5 x 9");
        x.put(0, last);
        due(25, "reached() from elsewhere", x.reached(), 2);
        due(26, "state(1)", x.state(1), 1 << 20);
    }

    private static void excluded() {
        PlanLandmarks x = new PlanLandmarks();
        due(29, "excluded(3) of nothing", x.excluded(3), ALL);
        x.action(1, 2, 1, 1);
        x.action(2, 4, 0, 1);
        x.put(0, 1 + 8);
        due(29, "excluded(0)", x.excluded(0), ALL & ~(1 + 8));
        due(29, "excluded(1)", x.excluded(1), ALL & ~(2 + 4 + 8));
        due(29, "excluded(2)", x.excluded(2), ALL & ~(2 + 4 + 8));
        due(29, "excluded(3)", x.excluded(3), ALL & ~15);
        due(29, "excluded(29)", x.excluded(29), ALL);
        CHECK.refused(29, x, "");
        due(29, "excluded(30)", x.excluded(30), -1);
        due(29, "excluded(-1)", x.excluded(-1), -1);
        CHECK.refused(29, x, "-1 x 2");
    }

    private static void plan(PlanLandmarks x, int costs, int... actions) {
        due(30, "best(0)", x.best(0), costs);
        due(30, "best(1)", x.best(1), actions.length);
        due(31, "bestAt(-1)", x.bestAt(-1), -1);
        for (int i = 0; i < actions.length; i++) {
            due(31, "bestAt(" + i + ")", x.bestAt(i), actions[i]);
        }
        due(31, "bestAt(" + actions.length + ")", x.bestAt(actions.length), -1);
        due(31, "bestAt(MAX)", x.bestAt(Integer.MAX_VALUE), -1);
    }

    private static void bestOfLeastCosts() {
        PlanLandmarks x = new PlanLandmarks();
        x.action(0, 8, 0, 5);
        x.action(0, 1, 0, 1);
        x.action(1, 2, 0, 1);
        x.action(2, 8, 0, 2);
        x.put(1, 8);
        plan(x, 4, 1, 2, 3);
        x.put(0, 2);
        plan(x, 2, 3);
        x.put(0, 8 + 16);
        plan(x, 0);
        due(30, "best(2)", x.best(2), -15);
        due(30, "best(-1)", x.best(-1), -15);
        CHECK.refused(30, x, "-5 x 2");
    }

    private static void bestOfFewest() {
        PlanLandmarks x = new PlanLandmarks();
        x.action(0, 1, 0, 1);
        x.action(1, 8, 0, 3);
        x.action(0, 8, 0, 4);
        x.action(0, 8, 0, 4);
        x.put(1, 8);
        plan(x, 4, 2);
    }

    private static void bestOfLeastActions() {
        PlanLandmarks x = new PlanLandmarks();
        x.action(Check.bits(1), Check.bits(2), 0, 2);
        x.action(0, Check.bits(1), 0, 1);
        x.action(0, Check.bits(5), 0, 2);
        x.action(Check.bits(5), Check.bits(2), 0, 1);
        x.put(1, Check.bits(2));
        plan(x, 3, 1, 0);
        // The first ACTION counts ahead of the second: 0 leads to two ways, the least goes on by 2.
        x = new PlanLandmarks();
        x.action(0, Check.bits(0), 0, 2);
        x.action(0, Check.bits(1), 0, 2);
        x.action(Check.bits(1), Check.bits(9), 0, 2);
        x.action(Check.bits(0), Check.bits(8, 9), 0, 2);
        x.action(Check.bits(0), Check.bits(9), 0, 2);
        x.put(1, Check.bits(9));
        plan(x, 4, 0, 3);
        // 0 is on a row of as least COSTS, but of more ACTIONS.
        x = new PlanLandmarks();
        x.action(0, Check.bits(0), 0, 1);
        x.action(0, Check.bits(1), 0, 3);
        x.action(Check.bits(0), Check.bits(2), 0, 1);
        x.action(Check.bits(1), Check.bits(9), 0, 1);
        x.action(Check.bits(2), Check.bits(9), 0, 2);
        x.put(1, Check.bits(9));
        plan(x, 4, 1, 3);
    }

    private static void bestOfNone() {
        PlanLandmarks x = new PlanLandmarks();
        x.action(1, 2, 1, 1);
        x.put(0, 1);
        x.put(1, 3);
        due(30, "best(0) of none", x.best(0), -1);
        due(30, "best(1) of none", x.best(1), -1);
        due(31, "bestAt(0) of none", x.bestAt(0), -1);
        x.row(0, 0, 9);
        due(32, "spell of none", x.spell(0), -5);
        CHECK.refused(32, x, "-5 x 1");
    }

    /** A counter of 8 FACTS: 255 ACTIONS to the last STATE, more than a ROW has room for. */
    private static void bestOfLong() {
        PlanLandmarks x = new PlanLandmarks();
        for (int k = 0; k < 8; k++) {
            // FACT k tells that bit k is set, FACT 8 + k that it isn't.
            int lower = (1 << k) - 1;
            x.action(lower | 1 << (8 + k), 1 << k | lower << 8, lower | 1 << (8 + k), 99);
        }
        x.put(0, 255 << 8);
        x.put(1, 255);
        due(25, "reached() of a counter", x.reached(), 256);
        due(30, "best(0) of a counter", x.best(0), 255 * 99);
        due(30, "best(1) of a counter", x.best(1), 255);
        for (int i = 0; i < 255; i++) {
            due(31, "bestAt(" + i + ")", x.bestAt(i), Integer.numberOfTrailingZeros(i + 1));
        }
        x.row(0, 0, 160);
        due(32, "spell of a counter", x.spell(0), -7);
        due(32, "element(0, 1)", x.element(0, 1), 0);
        CHECK.refused(32, x, "-7 x 1");
    }

    private static void spelled() {
        PlanLandmarks x = new PlanLandmarks();
        x.action(2, 4, 2, 1);
        x.action(1, 2, 1, 1);
        x.put(0, 1);
        x.put(1, 4);
        for (int sort = 0; sort < 4; sort++) {
            x.row(0, sort, 3);
            for (int i = 0; i < 3; i++) {
                x.set(0, i, 77);
            }
            due(32, "spell(0)", x.spell(0), 2);
            due(32, "element(0, 0)", x.element(0, 0), 1);
            due(32, "element(0, 1)", x.element(0, 1), 0);
            due(32, "element(0, 2)", x.element(0, 2), 77);
        }
        x.row(0, 1, 2);
        due(32, "spell of just enough", x.spell(0), 2);
        CHECK.refused(32, x, "");
        x.row(0, 1, 1);
        due(32, "spell of too short", x.spell(0), -7);
        due(32, "element(0, 0)", x.element(0, 0), 0);
        x.show(1, 0);
        due(32, "spell(8)", x.spell(8), -1);
        due(32, "spell(-1)", x.spell(-1), -1);
        due(32, "spell of an ACTION", x.spell(1), -2);
        due(32, "spell of NOTHING", x.spell(2), -3);
        x.put(1, 16);
        due(32, "spell of none", x.spell(0), -5);
        x.put(1, 1);
        x.row(0, 0, 0);
        due(32, "spell of no ACTIONS", x.spell(0), 0);
        CHECK.refused(32, x, "-1 x 2 -2 x 1 -3 x 1 -5 x 1 -7 x 1");
    }

    /** 0: from FACT 0 to 1; 1: from 1 to 2 and 3; 2: from 3 to 0. */
    private static PlanLandmarks round() {
        PlanLandmarks x = new PlanLandmarks();
        x.action(1, 2, 1, 3);
        x.action(2, 12, 2, 4);
        x.action(8, 1, 8, 5);
        x.put(0, 1);
        x.put(1, 4 + 2);
        x.show(7, 0);
        return x;
    }

    private static void judged() {
        PlanLandmarks x = round();
        Check.numbers(x, 0, 0, 1, 2, 0, 1, 1, 9);
        for (int n = 0; n <= 7; n++) {
            due(33, "judge(0, " + n + ")", x.judge(0, n), n < 6 ? -1 : 5);
        }
        Check.numbers(x, 0, 1, 0);
        due(33, "judge of the first", x.judge(0, 2), 0);
        Check.numbers(x, 0, 0, 3);
        due(33, "judge of no ACTION", x.judge(0, 2), 1);
        x.set(0, 1, -1);
        due(33, "judge of -1", x.judge(0, 2), 1);
        x.row(1, 3, 100);
        for (int i = 0; i < 100; i++) {
            x.set(1, i, i % 3 + (7L << 32));
        }
        due(33, "judge of 100 longs", x.judge(1, 100), -1);
        x.row(2, 0, 160);
        CHECK.refused(33, x, "");
        due(33, "judge(8, -1)", x.judge(8, -1), -11);
        due(33, "judge(-1, -1)", x.judge(-1, -1), -11);
        due(33, "judge of an ACTION", x.judge(7, -1), -12);
        due(33, "judge of NOTHING", x.judge(6, -1), -13);
        due(33, "judge n below", x.judge(0, -1), -14);
        due(33, "judge n beyond", x.judge(0, 3), -15);
        due(33, "judge n above 100 and beyond", x.judge(1, 101), -15);
        due(33, "judge n above 100", x.judge(2, 101), -16);
        CHECK.refused(33, x, "-1 x 2 -2 x 1 -3 x 1 -4 x 1 -5 x 2 -6 x 1");
    }

    private static void behindTold() {
        PlanLandmarks x = round();
        Check.numbers(x, 0, 0, 1, 2, 0, 0);
        int[][] want = {{1, 0, 0, 6}, {2, 3, 0, 4}, {12, 7, 0, 2}, {5, 12, 0, 2}, {6, 15, 1, 0}};
        for (int n = 0; n < 5; n++) {
            for (int what = 0; what < 4; what++) {
                due(34, "behind(0, " + n + ", " + what + ")", x.behind(0, n, what), want[n][what]);
            }
        }
        x.row(1, 0, 100);
        for (int i = 0; i < 100; i++) {
            x.set(1, i, i % 3);
        }
        due(34, "behind(1, 100, 1)", x.behind(1, 100, 1), 33 * 12 + 3);
        CHECK.refused(34, x, "");
        x.row(2, 0, 160);
        due(34, "behind of WRONG", x.behind(0, 5, 0), -6);
        due(34, "behind of WRONG, another what", x.behind(0, 5, 4), -5);
        due(34, "behind(8)", x.behind(8, -1, 4), -1);
        due(34, "behind of an ACTION", x.behind(7, -1, 4), -2);
        due(34, "behind of NOTHING", x.behind(6, -1, 4), -3);
        due(34, "behind n below", x.behind(0, -1, 4), -4);
        due(34, "behind n beyond", x.behind(0, 6, 0), -5);
        due(34, "behind what -1", x.behind(0, 1, -1), -5);
        due(34, "behind n above 100, another what", x.behind(2, 101, 4), -5);
        due(34, "behind n above 100", x.behind(2, 101, 0), -6);
        CHECK.refused(34, x, "-1 x 1 -2 x 1 -3 x 1 -4 x 1 -5 x 4 -6 x 2");
    }

    private static void mostPairs() {
        PlanLandmarks x = round();
        for (int a = 3; a < 24; a++) {
            x.action(0, 1, 0, 1);
        }
        Check.numbers(x, 0, 23, 2, 23, 2, 1, 0, 1, 1, 1);
        due(35, "mostPair(0, 2)", x.mostPair(0, 2), 2302);
        due(35, "mostPair(0, 3)", x.mostPair(0, 3), 223);
        due(35, "mostPair(0, 4)", x.mostPair(0, 4), 2302);
        due(35, "mostPair(0, 8)", x.mostPair(0, 8), 2302);
        due(35, "mostPair(0, 9)", x.mostPair(0, 9), 101);
        Check.numbers(x, 0, 5, 9, 5, 7, 5);
        due(35, "mostPair of the least second", x.mostPair(0, 5), 507);
        Check.numbers(x, 0, 0, 0, 0, 24);
        due(35, "mostPair of itself", x.mostPair(0, 3), 0);
        Check.numbers(x, 2, 0, 0, 0, 1, 5, 1, 5, 24);
        due(35, "mostPair of least first", x.mostPair(2, 7), 0);
        x.row(1, 0, 100);
        for (int i = 0; i < 100; i++) {
            x.set(1, i, i < 98 ? i % 24 : 23);
        }
        due(35, "mostPair of 100", x.mostPair(1, 100), 1);
        CHECK.refused(35, x, "");
        due(35, "mostPair of no ACTION", x.mostPair(0, 4), -6);
        x.set(0, 3, -1);
        due(35, "mostPair of -1", x.mostPair(0, 4), -6);
        Check.numbers(x, 0, -1, 1, 2, 0);
        due(35, "mostPair of -1 at first", x.mostPair(0, 4), -6);
        due(35, "mostPair(8)", x.mostPair(8, -1), -1);
        due(35, "mostPair of an ACTION", x.mostPair(7, -1), -2);
        due(35, "mostPair of NOTHING", x.mostPair(6, -1), -3);
        due(35, "mostPair n below", x.mostPair(0, -1), -4);
        due(35, "mostPair of one", x.mostPair(0, 1), -5);
        due(35, "mostPair of none", x.mostPair(0, 0), -5);
        due(35, "mostPair n beyond", x.mostPair(0, 5), -5);
        x.row(1, 0, 101);
        due(35, "mostPair n above 100", x.mostPair(1, 101), -6);
        CHECK.refused(35, x, "-1 x 1 -2 x 1 -3 x 1 -4 x 1 -5 x 3 -6 x 4");
    }
}
