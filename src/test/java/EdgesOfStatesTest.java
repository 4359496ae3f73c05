/** Terms, STATES AND PLANS: each sentence that names an edge has a test of its own. */
public final class EdgesOfStatesTest {
    private static final Check CHECK = new Check("EdgesOfStatesTest");
    private static final int ALL = (1 << 30) - 1;

    private static void due(String call, long got, long want) {
        CHECK.due(call, got, want);
    }

    public static void main(String[] args) {
        reachedOnes();
        bestPlans();
        toldPlans();
        greedyOnes();
        draws();
        shelves();
        CHECK.end();
    }

    private static void reachedOnes() {
        CHECK.edge("STATES by numbers: START is 0", EdgesOfStatesTest::startIsNought);
        CHECK.edge("for each by numbers, by each ACTION that MAY be done, the least first, what comes of it, "
            + "if it isn't there yet, is the next", EdgesOfStatesTest::byNumbers);
        CHECK.edge("If there would be more than 300, REACHED is TOO MANY", EdgesOfStatesTest::moreThan300);
        CHECK.edge("FAR of a REACHED one: the least COSTS together of ACTIONS from START to it",
            EdgesOfStatesTest::leastCosts);
        CHECK.edge("EXCLUDED by a FACT: FACTS that are in no REACHED STATE together with it",
            EdgesOfStatesTest::excludedOnes);
    }

    private static void startIsNought() {
        PlanLandmarks x = new PlanLandmarks();
        due("reached() of nothing", x.reached(), 1);
        due("state(0) of nothing", x.state(0), 0);
        due("numberOf(0)", x.numberOf(0), 0);
        due("state(1)", x.state(1), -5);
        x.put(0, ALL);
        due("reached() without ACTIONS", x.reached(), 1);
        due("state(0)", x.state(0), ALL);
        due("numberOf(ALL)", x.numberOf(ALL), 0);
        due("numberOf(0) then", x.numberOf(0), -1);
        // An ACTION that changes nothing comes to START again.
        x.action(0, 1, 0, 1);
        due("reached() by what changes nothing", x.reached(), 1);
        due("far(0)", x.far(0), 0);
    }

    private static void byNumbers() {
        PlanLandmarks x = new PlanLandmarks();
        // From {0}: by 0 to {2}, by 1 to {1}; from {2} by 2 to {3}; from {1} by 3 to {3}, by 4 to {0}, by 5 to {4}.
        x.action(1, 4, 1, 1);
        x.action(1, 2, 1, 1);
        x.action(4, 8, 4, 1);
        x.action(2, 8, 2, 1);
        x.action(2, 1, 2, 1);
        x.action(2, 16, 2, 1);
        x.put(0, 1);
        int[] want = {1, 4, 2, 8, 16};
        due("reached()", x.reached(), want.length);
        for (int i = 0; i < want.length; i++) {
            due("state(" + i + ")", x.state(i), want[i]);
            due("numberOf(" + want[i] + ")", x.numberOf(want[i]), i);
        }
        due("state(5)", x.state(5), -5);
    }

    /** So many STATES as the places of all rings multiplied: one FACT goes onward on each ring. */
    private static PlanLandmarks rings(int... rings) {
        PlanLandmarks x = new PlanLandmarks();
        int from = 0;
        int start = 0;
        for (int places : rings) {
            for (int at = 0; at + 1 < places; at++) {
                x.action(1 << (from + at), 1 << (from + at + 1), 1 << (from + at), 1);
            }
            start |= 1 << from;
            from += places;
        }
        x.put(0, start);
        return x;
    }

    private static void moreThan300() {
        due("reached() of 288", rings(2, 2, 2, 2, 2, 3, 3).reached(), 288);
        due("reached() of 299", counters().reached(), 299);
        due("reached() of 300", rings(3, 4, 5, 5).reached(), 300);
        due("reached() of 320", rings(4, 4, 4, 5).reached(), 0);
        PlanLandmarks x = rings(3, 4, 5, 5);
        int last = Check.bits(2, 6, 11, 16);
        due("numberOf the last of 300", x.numberOf(last), 299);
        due("state(299)", x.state(299), last);
        // One more, that comes of the very last: 301.
        x.action(last, 1 << 29, 0, 1);
        due("reached() of 301", x.reached(), 0);
        due("state(299) of 301", x.state(299), -5);
        due("best(0) of 301, with GOAL in START", x.best(0), -15);
        x.put(0, last);
        due("reached() from the last", x.reached(), 2);
        x.put(0, 1 << 29);
        due("reached() from elsewhere", x.reached(), 1);
    }

    /** Two counters, one from 3 to 15, one from 9 to 31: 13 times 23 STATES. */
    private static PlanLandmarks counters() {
        PlanLandmarks x = new PlanLandmarks();
        counter(x, 4, 0);
        counter(x, 5, 8);
        x.put(0, counted(3, 4, 0) | counted(9, 5, 8));
        return x;
    }

    /** ACTION k sets bit k and clears all lower ones. FACTS tell what is set, those behind them what is clear. */
    private static void counter(PlanLandmarks x, int bits, int from) {
        for (int k = 0; k < bits; k++) {
            int bit = 1 << k;
            int lower = (bit - 1) << from;
            int clear = bit << (from + bits);
            x.action(lower | clear, bit << from | lower << bits, lower | clear, 1);
        }
    }

    private static int counted(int value, int bits, int from) {
        return value << from | (~value & ((1 << bits) - 1)) << (from + bits);
    }

    private static void leastCosts() {
        PlanLandmarks x = new PlanLandmarks();
        x.action(1, 8, 1, 99);
        x.action(1, 2, 1, 33);
        x.action(2, 4, 2, 32);
        x.action(4, 8, 4, 33);
        x.action(8, 1, 8, 1);
        x.action(1, 8, 1, 99);
        x.put(0, 1);
        int[] states = {1, 8, 2, 4};
        int[] fars = {0, 98, 33, 65};
        for (int i = 0; i < 4; i++) {
            due("state(" + i + ")", x.state(i), states[i]);
            due("far(" + i + ")", x.far(i), fars[i]);
        }
        due("far(4)", x.far(4), -5);
        x.put(0, 8);
        due("far(1) from elsewhere", x.far(1), 1);
    }

    private static void excludedOnes() {
        PlanLandmarks x = new PlanLandmarks();
        due("excluded(0): in no STATE, so not with itself", x.excluded(0), ALL);
        x.action(1, 2, 1, 1);
        x.action(2, 4, 0, 1);
        x.put(0, 1);
        due("excluded(0)", x.excluded(0), ALL & ~1);
        due("excluded(1)", x.excluded(1), ALL & ~6);
        due("excluded(2)", x.excluded(2), ALL & ~6);
        due("excluded(29)", x.excluded(29), ALL);
        x.put(0, ALL);
        due("excluded(0) by all", x.excluded(0), 0);
        due("excluded(29) by all", x.excluded(29), 0);
    }

    private static void bestPlans() {
        CHECK.edge("of rows of ACTIONS from START to a STATE that has GOAL", EdgesOfStatesTest::rowsToGoal);
        CHECK.edge("those of least COSTS together", EdgesOfStatesTest::bestOfLeastCosts);
        CHECK.edge("of these those of fewest ACTIONS", EdgesOfStatesTest::bestOfFewest);
        CHECK.edge("of these that of which the first ACTION is least, then the second, and so on",
            EdgesOfStatesTest::bestOfLeastActions);
    }

    private static void plan(PlanLandmarks x, int costs, int... actions) {
        due("best(0)", x.best(0), costs);
        due("best(1)", x.best(1), actions.length);
        for (int i = 0; i < actions.length; i++) {
            due("bestAt(" + i + ")", x.bestAt(i), actions[i]);
        }
        due("bestAt(" + actions.length + ")", x.bestAt(actions.length), -1);
    }

    private static void rowsToGoal() {
        PlanLandmarks x = new PlanLandmarks();
        plan(x, 0);
        x.put(1, 1);
        due("best(0), GOAL never comes", x.best(0), -1);
        due("best(1), GOAL never comes", x.best(1), -1);
        due("bestAt(0), GOAL never comes", x.bestAt(0), -1);
        x.put(0, 3);
        plan(x, 0);
        x.put(0, 0);
        x.action(0, 5, 0, 99);
        plan(x, 99, 0);
        // Both FACTS of GOAL come, but never together.
        x.action(0, 8, 5, 1);
        x.action(0, 0, 8, 1);
        x.action(1, 16, 13, 1);
        x.put(1, 1 | 16);
        plan(x, 199, 0, 3, 0);
        x.action(0, 0, 16, 1);
        x.put(1, 16 | 8);
        plan(x, 101, 0, 3, 1);
        x.put(1, 1 << 29);
        due("best(0), no ACTION MAKES it", x.best(0), -1);
    }

    private static void bestOfLeastCosts() {
        PlanLandmarks x = new PlanLandmarks();
        x.action(0, 8, 0, 4);
        x.action(0, 1, 0, 1);
        x.action(1, 2, 0, 1);
        x.action(2, 8, 0, 1);
        x.put(1, 8);
        plan(x, 3, 1, 2, 3);
        x.action(0, 8, 0, 2);
        plan(x, 2, 4);
    }

    private static void bestOfFewest() {
        PlanLandmarks x = new PlanLandmarks();
        x.action(0, 1, 0, 1);
        x.action(1, 2, 0, 1);
        x.action(2, 8, 0, 1);
        x.put(1, 8);
        plan(x, 3, 0, 1, 2);
        x.action(1, 8, 0, 2);
        plan(x, 3, 0, 3);
        x.action(0, 8, 0, 3);
        plan(x, 3, 4);
        // To STATES that differ, both with GOAL.
        x.action(0, 8 | 16, 0, 3);
        plan(x, 3, 4);
    }

    private static void bestOfLeastActions() {
        PlanLandmarks x = new PlanLandmarks();
        x.action(0, 1, 0, 1);
        x.action(0, 2, 0, 1);
        x.action(0, 4, 0, 1);
        x.put(1, 7);
        plan(x, 3, 0, 1, 2);
        // The first ACTION is 1 both ways, the second 2 or 3; the one of 3 would end by the least.
        x = new PlanLandmarks();
        x.action(8, 16, 0, 1);
        x.action(0, 1, 0, 1);
        x.action(1, 2, 0, 1);
        x.action(1, 8, 0, 1);
        x.action(2, 16, 0, 1);
        x.put(1, 16);
        plan(x, 3, 1, 2, 4);
        // Of two alike the one of the lower number.
        x = new PlanLandmarks();
        x.action(0, 2, 0, 2);
        x.action(0, 1, 0, 1);
        x.action(0, 1, 0, 1);
        x.put(1, 1);
        plan(x, 1, 1);
    }

    private static void toldPlans() {
        CHECK.edge("a ROW of numbers of ACTIONS, done from START on", EdgesOfStatesTest::fromStartOn);
        CHECK.edge("WRONG: the first that is no ACTION or MAY not be done; NONE", EdgesOfStatesTest::firstWrong);
        CHECK.edge("that come most often one behind the other, of several the least first, then the least second",
            EdgesOfStatesTest::mostOften);
    }

    private static void fromStartOn() {
        PlanLandmarks x = new PlanLandmarks();
        x.action(1, 2, 1, 1);
        x.put(2, 1);
        Check.numbers(x, 0, 0);
        due("judge(0, 1) with NOW alone", x.judge(0, 1), 0);
        x.put(0, 1);
        due("judge(0, 1) with START", x.judge(0, 1), -1);
        due("behind(0, 1, 0)", x.behind(0, 1, 0), 2);
        due("behind(0, 0, 0)", x.behind(0, 0, 0), 1);
        due("NOW", x.status(3), 1);
        due("START", x.status(1), 1);
    }

    private static void firstWrong() {
        PlanLandmarks x = new PlanLandmarks();
        x.action(0, 1, 0, 1);
        x.action(1, 2, 1, 1);
        int[][] told = {{1}, {0, 1, 1}, {0, 2}, {0, -1}, {0, 24, 1}, {0, 1, 0, 1, 99}, {0, 1, 0, 1}, {Integer.MIN_VALUE},
            {0, Integer.MAX_VALUE}, {0, 0, 0}, {2, 1}};
        int[] want = {0, 2, 1, 1, 1, 4, -1, 0, 1, -1, 0};
        for (int i = 0; i < told.length; i++) {
            Check.numbers(x, 0, told[i]);
            due("judge of told PLAN " + i, x.judge(0, told[i].length), want[i]);
            due("judge of none of told PLAN " + i, x.judge(0, 0), -1);
        }
    }

    private static void mostOften() {
        PlanLandmarks x = new PlanLandmarks();
        for (int a = 0; a < 24; a++) {
            x.action(1, 0, 0, 1);
        }
        // None of them MAY be done: MOST PAIR doesn't ask.
        int[][] told = {{0, 0}, {23, 23}, {23, 0}, {5, 3, 5, 3, 5}, {3, 5, 3}, {7, 2, 7, 1, 7}, {4, 4, 4, 1, 4, 1},
            {2, 2, 2, 2}, {9, 8, 9, 8, 9, 8, 7, 7, 7, 7, 7}};
        int[] want = {0, 2323, 2300, 305, 305, 107, 401, 202, 707};
        for (int i = 0; i < told.length; i++) {
            Check.numbers(x, 0, told[i]);
            due("mostPair of told PLAN " + i, x.mostPair(0, told[i].length), want[i]);
        }
    }

    private static void greedyOnes() {
        CHECK.edge("GREEDY from NOW by a GUESS, n times at most", EdgesOfStatesTest::nTimesAtMost);
        CHECK.edge("if NOW has GOAL, it ends", EdgesOfStatesTest::nowHasGoal);
        CHECK.edge("the least GUESS (NONE is more than any), of several the least ACTION, is done",
            EdgesOfStatesTest::leastGuess);
        CHECK.edge("if none MAY be, or what comes is GUESSED NONE, it ends ahead", EdgesOfStatesTest::endsAhead);
    }

    private static void traced(PlanLandmarks x, int... want) {
        due("status(6)", x.status(6), want.length);
        for (int i = 0; i < want.length; i++) {
            due("trace(" + i + ")", x.trace(i), want[i]);
        }
        due("trace(" + want.length + ")", x.trace(want.length), -1);
    }

    private static void nTimesAtMost() {
        for (int which = 0; which < 4; which++) {
            PlanLandmarks x = new PlanLandmarks();
            for (int a = 0; a < 4; a++) {
                x.action(a == 0 ? 0 : 1 << (a - 1), 1 << a, 0, 1);
            }
            x.put(1, 15);
            x.put(0, 7);
            due("greedy(" + which + ", 1)", x.greedy(which, 1), 1);
            due("NOW", x.status(3), 1);
            traced(x, 0);
            due("greedy(" + which + ", 2)", x.greedy(which, 2), 2);
            due("NOW", x.status(3), 7);
            traced(x, 1, 2);
            due("greedy(" + which + ", 40)", x.greedy(which, 40), 1);
            due("NOW", x.status(3), 15);
            traced(x, 3);
        }
        // LEFT goes round for ever: 40 times.
        PlanLandmarks x = new PlanLandmarks();
        x.action(0, 1, 0, 1);
        x.put(1, 2);
        due("greedy(0, 40)", x.greedy(0, 40), 40);
        due("greedy(0, 39)", x.greedy(0, 39), 39);
        due("trace(38)", x.trace(38), 0);
        due("trace(39)", x.trace(39), -1);
    }

    private static void nowHasGoal() {
        PlanLandmarks x = new PlanLandmarks();
        x.action(0, 2, 0, 1);
        for (int which = 0; which < 4; which++) {
            x.put(1, 0);
            x.put(2, 0);
            due("greedy(" + which + ", 5) of no GOAL", x.greedy(which, 5), 0);
            x.put(1, 1);
            x.put(2, 1 | 4);
            due("greedy(" + which + ", 5) at GOAL", x.greedy(which, 5), 0);
            due("NOW", x.status(3), 5);
            traced(x);
        }
    }

    private static void leastGuess() {
        PlanLandmarks x = new PlanLandmarks();
        // By 0 GOAL is never; by 1 it is 9 away, by 2 and 3 but 8.
        x.action(1, 0, 1, 1);
        x.action(1, 2, 1, 1);
        x.action(1, 4, 1, 99);
        x.action(1, 4, 1, 1);
        x.action(2, 16, 0, 9);
        x.action(4, 16, 0, 8);
        x.put(1, 16);
        for (int which = 1; which < 4; which++) {
            x.put(2, 1);
            due("greedy(" + which + ", 9)", x.greedy(which, 9), 2);
            traced(x, 2, 5);
        }
        // To LEFT they are all alike.
        x.put(2, 1);
        due("greedy(0, 9)", x.greedy(0, 9), 1);
        traced(x, 0);
        // NONE is more than the most that a GUESS can be, a million.
        x = new PlanLandmarks();
        x.action(1 << 29, 0, 1 << 29, 1);
        x.action(1 << 29, 1 << 28, 1 << 29, 1);
        for (int a = 2; a < 16; a++) {
            x.action(1 << 28 | (a == 2 ? 0 : 3 << (2 * a - 6)), 3 << (2 * a - 4), 0, 99);
        }
        x.put(1, 1 << 26);
        x.put(2, 1 << 29);
        due("guess 2 behind 1", x.guess(1 << 28, 2), 1000000);
        due("guess 2 behind 0", x.guess(0, 2), -1);
        due("greedy(2, 1)", x.greedy(2, 1), 1);
        traced(x, 1);
    }

    private static void endsAhead() {
        for (int which = 0; which < 4; which++) {
            PlanLandmarks x = new PlanLandmarks();
            x.put(1, 4);
            x.put(2, 1);
            due("greedy(" + which + ", 9) of no ACTIONS", x.greedy(which, 9), 0);
            x.action(2, 4, 0, 1);
            due("greedy(" + which + ", 9), none MAY be", x.greedy(which, 9), 0);
            due("NOW", x.status(3), 1);
            traced(x);
            // What comes of 1 is GUESSED NONE, but by LEFT.
            x.action(1, 0, 0, 1);
            int times = which == 0 ? 9 : 0;
            due("greedy(" + which + ", 9) to NONE", x.greedy(which, 9), times);
            due("NOW", x.status(3), 1);
            due("status(6)", x.status(6), times);
            due("trace(0)", x.trace(0), which == 0 ? 1 : -1);
        }
    }

    private static void draws() {
        CHECK.edge("WALK by draws, n times: of ACTIONS that MAY be done in NOW the one of a DRAW below how many, by numbers",
            EdgesOfStatesTest::ofThoseThatMay);
        CHECK.edge("(none: no DRAW, it ends)", EdgesOfStatesTest::noDraw);
        CHECK.edge("SEED (1 at first) becomes SEED times 1103515245, and 12345 (an int, wrapping)",
            EdgesOfStatesTest::seedsWrap);
        CHECK.edge("its upper 16 bits, no sign, modulo n", EdgesOfStatesTest::upperBits);
    }

    private static void ofThoseThatMay() {
        PlanLandmarks x = new PlanLandmarks();
        for (int a = 0; a < 24; a++) {
            x.action(0, 0, 0, 1);
        }
        // The DRAWS from SEED 1 on: 16838, 38526, 10113, 50283.
        due("walk(4)", x.walk(4), 4);
        traced(x, 16838 % 24, 38526 % 24, 10113 % 24, 50283 % 24);
        x = new PlanLandmarks();
        for (int a = 0; a < 12; a++) {
            x.action(0, 0, 0, 1);
            x.action(1 << 29, 0, 0, 1);
        }
        due("walk(4), the odd ones MAY not be done", x.walk(4), 4);
        traced(x, 16838 % 12 * 2, 38526 % 12 * 2, 10113 % 12 * 2, 50283 % 12 * 2);
        x = new PlanLandmarks();
        x.action(1, 0, 0, 1);
        x.action(0, 1, 0, 1);
        due("walk(2): below 1, then below 2", x.walk(2), 2);
        traced(x, 1, 38526 % 2);
        due("walk(40)", x.walk(40), 40);
        due("status(6)", x.status(6), 40);
    }

    private static void noDraw() {
        PlanLandmarks x = new PlanLandmarks();
        due("walk(40) of no ACTIONS", x.walk(40), 0);
        due("SEED", x.status(4), 1);
        x.action(1, 0, 1, 1);
        due("walk(40), none MAY be done", x.walk(40), 0);
        due("SEED", x.status(4), 1);
        traced(x);
        x.put(2, 1);
        due("walk(40), one MAY be done once", x.walk(40), 1);
        due("SEED behind one DRAW below 1", x.status(4), 1103527590);
        traced(x, 0);
    }

    private static void seedsWrap() {
        int[] seeds = {1, 0, -1, Integer.MAX_VALUE, Integer.MIN_VALUE, 2};
        int[] want = {1103527590, 12345, -1103502900, 1043980748, -2147471303, -2087924461};
        PlanLandmarks x = new PlanLandmarks();
        x.action(0, 0, 0, 1);
        for (int i = 0; i < seeds.length; i++) {
            if (i > 0) {
                x.seed(seeds[i]);
            }
            due("walk(1) with SEED " + seeds[i], x.walk(1), 1);
            due("SEED behind " + seeds[i], x.status(4), want[i]);
        }
    }

    private static void upperBits() {
        PlanLandmarks x = new PlanLandmarks();
        for (int a = 0; a < 7; a++) {
            x.action(0, 0, 0, 1);
        }
        // The SEEDS that come: 0x80003039, 0xBE39F44C, 0x00003039.
        int[] seeds = {Integer.MIN_VALUE, -1, 0};
        int[] upper = {0x8000, 0xBE39, 0};
        for (int i = 0; i < seeds.length; i++) {
            x.seed(seeds[i]);
            x.walk(1);
            due("the upper bits of SEED behind " + seeds[i], x.status(4) >>> 16, upper[i]);
            due("trace(0) behind SEED " + seeds[i], x.trace(0), upper[i] % 7);
        }
    }

    private static void shelves() {
        CHECK.edge("SHELVES 0 to 7 hold NOTHING (at first), a ROW, or one of the ACTIONS",
            EdgesOfStatesTest::shelvesNoughtToSeven);
        CHECK.edge("A ROW has a SORT (0 bytes, 1 shorts, 2 ints, 3 longs) and 0 to 160 elements, 0 at first",
            EdgesOfStatesTest::sortsAndSizes);
        CHECK.edge("what is put in keeps its lowest bits", EdgesOfStatesTest::lowestBits);
        CHECK.edge("All is read as ints (of longs the lowest 32 bits)", EdgesOfStatesTest::readAsInts);
    }

    private static void shelvesNoughtToSeven() {
        PlanLandmarks x = new PlanLandmarks();
        x.action(0, 0, 0, 6);
        for (int s = 0; s < 8; s++) {
            due("holds(" + s + ") at first", x.holds(s), -1);
            due("read(" + s + ") at first", x.read(s), -3);
            due("says(" + s + ", 0) at first", x.says(s, 0), -3);
            due("row(" + s + ", 0, 1)", x.row(s, 0, 1), 1);
            due("holds(" + s + ")", x.holds(s), 100);
            due("says(" + s + ", 0) of a ROW", x.says(s, 0), -2);
            due("show(" + s + ", 0)", x.show(s, 0), 1);
            due("holds(" + s + ")", x.holds(s), 0);
            due("read(" + s + ") of an ACTION", x.read(s), -2);
            due("show(" + s + ", NONE)", x.show(s, -1), 0);
            due("holds(" + s + ")", x.holds(s), -1);
        }
        for (int s : new int[] {-1, 8, Integer.MAX_VALUE, Integer.MIN_VALUE}) {
            due("holds(" + s + ")", x.holds(s), -1);
            due("row(" + s + ", 0, 1)", x.row(s, 0, 1), -1);
            due("set(" + s + ", 0, 1)", x.set(s, 0, 1), -1);
            due("copy(" + s + ", 0, ..)", x.copy(s, 0, 0, 0, 0), -1);
            due("copy(0, " + s + ", ..)", x.copy(0, s, 0, 0, 0), -1);
            due("element(" + s + ", 0)", x.element(s, 0), 0);
            due("show(" + s + ", 0)", x.show(s, 0), -1);
            due("says(" + s + ", 0)", x.says(s, 0), -1);
            due("read(" + s + ")", x.read(s), -1);
            due("spell(" + s + ")", x.spell(s), -1);
            due("judge(" + s + ", 0)", x.judge(s, 0), -11);
            due("behind(" + s + ", 0, 0)", x.behind(s, 0, 0), -1);
            due("mostPair(" + s + ", 2)", x.mostPair(s, 2), -1);
        }
    }

    private static void sortsAndSizes() {
        PlanLandmarks x = new PlanLandmarks();
        for (int sort = 0; sort < 4; sort++) {
            due("row(0, " + sort + ", 0)", x.row(0, sort, 0), 1);
            due("holds(0)", x.holds(0), 100 + sort);
            due("set(0, 0, 1) of no elements", x.set(0, 0, 1), -5);
            due("row(0, " + sort + ", 160)", x.row(0, sort, 160), 1);
            due("element(0, 0) at first", x.element(0, 0), 0);
            due("element(0, 159) at first", x.element(0, 159), 0);
            due("set(0, 0, 7)", x.set(0, 0, 7), 1);
            due("set(0, 159, 9)", x.set(0, 159, 9), 1);
            due("set(0, 160, 9)", x.set(0, 160, 9), -5);
            due("set(0, -1, 9)", x.set(0, -1, 9), -5);
            due("element(0, 0)", x.element(0, 0), 7);
            due("element(0, 159)", x.element(0, 159), 9);
            due("row(0, " + sort + ", 161)", x.row(0, sort, 161), -7);
            due("row(0, " + sort + ", -1)", x.row(0, sort, -1), -4);
            due("element(0, 159) still", x.element(0, 159), 9);
        }
        for (int sort : new int[] {-1, 4, Integer.MAX_VALUE, Integer.MIN_VALUE}) {
            due("row(0, " + sort + ", 1)", x.row(0, sort, 1), -6);
        }
        due("holds(0) still", x.holds(0), 103);
    }

    private static void lowestBits() {
        long[] put = {127, 128, 255, 256, -128, -129, 32767, 32768, 65535, 65536, -32769, Integer.MAX_VALUE, 1L << 31,
            (1L << 32) - 1, 1L << 32, Long.MAX_VALUE, Long.MIN_VALUE};
        long[][] kept = {
            {127, -128, -1, 0, -128, 127, -1, 0, -1, 0, -1, -1, 0, -1, 0, -1, 0},
            {127, 128, 255, 256, -128, -129, 32767, -32768, -1, 0, 32767, -1, 0, -1, 0, -1, 0},
            {127, 128, 255, 256, -128, -129, 32767, 32768, 65535, 65536, -32769, Integer.MAX_VALUE, Integer.MIN_VALUE,
                -1, 0, -1, 0},
            put};
        for (int sort = 0; sort < 4; sort++) {
            PlanLandmarks x = new PlanLandmarks();
            x.row(0, sort, put.length);
            for (int i = 0; i < put.length; i++) {
                due("set(0, " + i + ", " + put[i] + ")", x.set(0, i, put[i]), 1);
            }
            for (int i = 0; i < put.length; i++) {
                due("element(0, " + i + ") of sort " + sort, x.element(0, i), kept[sort][i]);
            }
        }
    }

    private static void readAsInts() {
        PlanLandmarks x = new PlanLandmarks();
        x.action(0, 1, 0, 1);
        x.action(0, 2, 0, 1);
        x.row(0, 3, 4);
        long high = 5L << 32;
        for (int i = 0; i < 4; i++) {
            x.set(0, i, high + i % 2);
        }
        due("judge(0, 4) of longs", x.judge(0, 4), -1);
        due("behind(0, 4, 0) of longs", x.behind(0, 4, 0), 3);
        due("mostPair(0, 4) of longs", x.mostPair(0, 4), 1);
        x.set(0, 3, high - 1);
        due("judge(0, 4), the lowest 32 bits are -1", x.judge(0, 4), 3);
        due("mostPair(0, 4), the lowest 32 bits are -1", x.mostPair(0, 4), -6);
        x.row(1, 3, 5);
        for (int i = 0; i < 5; i++) {
            x.set(1, i, "now 7".charAt(i) - high);
        }
        due("read(1) of longs", x.read(1), 1);
        due("NOW", x.status(3), 128);
        // Bytes and shorts have a sign: no ACTION's number is below 0.
        x.row(2, 0, 1);
        x.set(2, 0, 255);
        due("judge of a byte 255", x.judge(2, 1), 0);
        x.set(2, 0, 256);
        due("judge of a byte 256", x.judge(2, 1), -1);
    }
}
