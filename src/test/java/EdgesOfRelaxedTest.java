/** Terms, RELAXED: each sentence that names an edge has a test of its own. */
public final class EdgesOfRelaxedTest {
    private static final Check CHECK = new Check("EdgesOfRelaxedTest");
    private static final int ALL = (1 << 30) - 1;

    private static void due(String call, long got, long want) {
        CHECK.due(call, got, want);
    }

    public static void main(String[] args) {
        levels();
        guesses();
        relaxedPlans();
        landmarks();
        CHECK.end();
    }

    private static void levels() {
        CHECK.edge("LEVEL 0 of FACTS is it", EdgesOfRelaxedTest::levelNought);
        CHECK.edge("the next LEVEL has all of the one ahead, and all that ACTIONS MAKE whose NEEDS are in the one ahead",
            EdgesOfRelaxedTest::nextLevel);
        CHECK.edge("FIRST LEVEL of a FACT: the least that has it", EdgesOfRelaxedTest::firstOfFact);
        CHECK.edge("of an ACTION: the least that has all its NEEDS", EdgesOfRelaxedTest::firstOfAction);
        CHECK.edge("NONE: no LEVEL", EdgesOfRelaxedTest::noLevel);
        CHECK.edge("A BAR: a FACT that no ACTION MAKES then (and that isn't in LEVEL 0)", EdgesOfRelaxedTest::bars);
    }

    private static void levelNought() {
        PlanLandmarks x = new PlanLandmarks();
        x.action(0, 6, 1, 1);
        for (int state : new int[] {0, 1, 9, 1 << 29, ALL}) {
            due("level(" + state + ", 0)", x.level(state, 0), state);
            due("level(" + state + ", 1)", x.level(state, 1), state | 6);
        }
    }

    /** FACT a by ACTION a, which NEEDS the one ahead: so many LEVELS as there may be ACTIONS. */
    private static PlanLandmarks chain() {
        PlanLandmarks x = new PlanLandmarks();
        for (int a = 0; a < 24; a++) {
            x.action(a == 0 ? 0 : 1 << (a - 1), 1 << a, ALL, 1);
        }
        return x;
    }

    private static void nextLevel() {
        PlanLandmarks x = chain();
        for (int k = 0; k <= 30; k++) {
            due("level(0, " + k + ")", x.level(0, k), (1 << Math.min(k, 24)) - 1);
            due("level(1 << 29, " + k + ")", x.level(1 << 29, k), 1 << 29 | (1 << Math.min(k, 24)) - 1);
        }
        due("level(ALL, 30)", x.level(ALL, 30), ALL);
        // All NEEDS must be there; what an ACTION MAKES at once doesn't count for its LEVEL.
        x = new PlanLandmarks();
        x.action(1, 2, 1, 1);
        x.action(2, 4, 2, 1);
        x.action(1 | 4, 8, 0, 1);
        x.action(1 | 16, 32, 0, 1);
        int[] want = {1, 3, 7, 15, 15};
        for (int k = 0; k < want.length; k++) {
            due("level(1, " + k + ") of all NEEDS", x.level(1, k), want[k]);
        }
        due("level(4, 30)", x.level(4, 30), 4);
    }

    private static void firstOfFact() {
        PlanLandmarks x = chain();
        for (int fact = 0; fact < 24; fact++) {
            due("first(0, " + fact + ")", x.first(0, fact), fact + 1);
            due("first of one that is there", x.first(1 << fact, fact), 0);
        }
        due("first(1 << 22, 23)", x.first(1 << 22, 23), 1);
        due("first(1 << 22, 22)", x.first(1 << 22, 22), 0);
        due("first(1 << 22, 21)", x.first(1 << 22, 21), 22);
        // Two ways: the shorter one tells.
        x = new PlanLandmarks();
        x.action(2, 4, 0, 1);
        x.action(0, 2, 0, 1);
        x.action(0, 4, 0, 99);
        due("first(0, 2) of two ways", x.first(0, 2), 1);
    }

    private static void firstOfAction() {
        PlanLandmarks x = chain();
        for (int a = 0; a < 24; a++) {
            due("firstOf(0, " + a + ")", x.firstOf(0, a), a);
            due("firstOf(ALL, " + a + ")", x.firstOf(ALL, a), 0);
        }
        x = new PlanLandmarks();
        x.action(0, 2, 0, 1);
        x.action(2, 4, 0, 1);
        x.action(1 | 2 | 4, 0, 0, 1);
        due("firstOf(1, 2) by the latest of three NEEDS", x.firstOf(1, 2), 2);
        due("firstOf(5, 2)", x.firstOf(5, 2), 1);
        due("firstOf(0, 2)", x.firstOf(0, 2), -1);
    }

    private static void noLevel() {
        PlanLandmarks x = chain();
        for (int fact = 24; fact < 30; fact++) {
            due("first(0, " + fact + ")", x.first(0, fact), -1);
        }
        x = new PlanLandmarks();
        x.action(1, 2, 0, 1);
        x.action(2, 1, 0, 1);
        x.action(4, 4, 0, 1);
        for (int a = 0; a < 3; a++) {
            due("first(8, " + a + ")", x.first(8, a), -1);
            due("firstOf(8, " + a + ")", x.firstOf(8, a), -1);
        }
        due("REFUSALS -1", x.status(11), 0);
        due("REFUSALS -6", x.status(16), 0);
    }

    private static void bars() {
        PlanLandmarks x = new PlanLandmarks();
        x.action(1, 2, 0, 1);
        x.action(2, 4, 0, 1);
        x.action(8, 6, 0, 1);
        x.put(0, 1 | 8);
        // From START: 1 by 0 or 3, 2 by 1 or 3.
        due("isAhead(0, 1): 3 is another way", x.isAhead(0, 1), 0);
        due("isAhead(3, 1): 0 is another way", x.isAhead(3, 1), 0);
        due("isAhead(1, 2): made by 2 at once", x.isAhead(1, 2), 0);
        x.put(0, 1);
        due("isAhead(0, 1): out of LEVEL 0", x.isAhead(0, 1), 1);
        due("isAhead(0, 2): and all behind it", x.isAhead(0, 2), 1);
        due("isAhead(1, 2): no ACTION MAKES it", x.isAhead(1, 2), 1);
        due("isAhead(1, 0): START is there without", x.isAhead(1, 0), 0);
        // Made again by an ACTION, a FACT of START is barred all the same.
        x.action(0, 1, 0, 1);
        due("isAhead(0, 1): no ACTION MAKES it", x.isAhead(0, 1), 1);
        // Where there is no BAR, nothing is out of the LEVELS.
        due("level(1, 2)", x.level(1, 2), 7);
    }

    private static void guesses() {
        CHECK.edge("0 LEFT: how many FACTS of GOAL aren't in it", EdgesOfRelaxedTest::left);
        CHECK.edge("1 GREATEST: of a FACT 0, if it is in the STATE", EdgesOfRelaxedTest::nothingForWhatIsThere);
        CHECK.edge("else the least, by ACTIONS that MAKE it, of COST and the greatest of their NEEDS' (0: none)",
            EdgesOfRelaxedTest::greatestOfNeeds);
        CHECK.edge("of GOAL the greatest of its FACTS'", EdgesOfRelaxedTest::greatestOfGoal);
        CHECK.edge("2 SUM: likewise, with sums of NEEDS', and of GOAL's", EdgesOfRelaxedTest::sums);
        CHECK.edge("3 PLAN: COSTS together of a RELAXED PLAN", EdgesOfRelaxedTest::costsOfPlan);
        CHECK.edge("Of 1 and 2 the least solution", EdgesOfRelaxedTest::leastSolution);
        CHECK.edge("1 to 3 are NONE, if a FACT of GOAL has no FIRST LEVEL", EdgesOfRelaxedTest::guessedNone);
        CHECK.edge("above 1,000,000 counts as 1,000,000, all along", EdgesOfRelaxedTest::aboveAMillion);
    }

    private static void guessed(PlanLandmarks x, int state, int... want) {
        for (int which = 0; which < 4; which++) {
            due("guess(" + state + ", " + which + ")", x.guess(state, which), want[which]);
        }
    }

    private static void left() {
        PlanLandmarks x = new PlanLandmarks();
        due("guess(0, 0) of no GOAL", x.guess(0, 0), 0);
        due("guess(ALL, 0) of no GOAL", x.guess(ALL, 0), 0);
        x.put(1, ALL);
        due("guess(0, 0) of all", x.guess(0, 0), 30);
        due("guess(ALL, 0) of all", x.guess(ALL, 0), 0);
        due("guess(1 << 29, 0) of all", x.guess(1 << 29, 0), 29);
        x.put(1, 7);
        due("guess(8 + 2, 0)", x.guess(10, 0), 2);
        due("guess(15, 0)", x.guess(15, 0), 0);
    }

    private static void nothingForWhatIsThere() {
        PlanLandmarks x = new PlanLandmarks();
        x.action(0, 1, 0, 9);
        x.put(1, 1);
        guessed(x, 1, 0, 0, 0, 0);
        guessed(x, 0, 1, 9, 9, 9);
        x.put(1, 0);
        guessed(x, 0, 0, 0, 0, 0);
        guessed(x, ALL, 0, 0, 0, 0);
        x.action(1, 2, 0, 5);
        x.put(1, 2);
        due("guess(1, 1), the NEED is there", x.guess(1, 1), 5);
        due("guess(0, 1), it isn't", x.guess(0, 1), 14);
    }

    private static void greatestOfNeeds() {
        PlanLandmarks x = new PlanLandmarks();
        x.action(0, 1, 0, 20);
        x.action(0, 2, 0, 30);
        x.action(1 | 2, 8, 0, 5);
        x.put(1, 8);
        due("guess(0, 1) by NEEDS of 20 and 30", x.guess(0, 1), 35);
        due("guess(2, 1) by NEEDS of 20 and 0", x.guess(2, 1), 25);
        due("guess(3, 1) by NEEDS of 0 and 0", x.guess(3, 1), 5);
        x.action(0, 8, 0, 36);
        due("guess(0, 1), one of no NEEDS costs more", x.guess(0, 1), 35);
        x.action(0, 8, 0, 34);
        due("guess(0, 1), one of no NEEDS costs less", x.guess(0, 1), 34);
        x.action(16, 8, 0, 1);
        due("guess(0, 1), the NEEDS of the cheapest never come", x.guess(0, 1), 34);
    }

    private static void greatestOfGoal() {
        PlanLandmarks x = new PlanLandmarks();
        x.action(0, 1, 0, 20);
        x.action(0, 2, 0, 30);
        x.action(0, 1 << 29, 0, 29);
        x.put(1, 3 | 1 << 29);
        due("guess(0, 1)", x.guess(0, 1), 30);
        due("guess(2, 1)", x.guess(2, 1), 29);
        due("guess(3 | 1 << 29, 1)", x.guess(3 | 1 << 29, 1), 0);
        x.put(1, 0);
        due("guess(0, 1) of no GOAL", x.guess(0, 1), 0);
    }

    private static void sums() {
        PlanLandmarks x = new PlanLandmarks();
        x.action(0, 1, 0, 20);
        x.action(0, 2, 0, 30);
        x.action(1 | 2, 8, 0, 5);
        x.put(1, 8);
        due("guess(0, 2) by NEEDS of 20 and 30", x.guess(0, 2), 55);
        due("guess(2, 2) by NEEDS of 20 and 0", x.guess(2, 2), 25);
        due("guess(3, 2) by NEEDS of 0 and 0", x.guess(3, 2), 5);
        x.put(1, 8 | 1 | 2);
        due("guess(0, 2) of three", x.guess(0, 2), 105);
        due("guess(8, 2) of two", x.guess(8, 2), 50);
        x.put(1, 0);
        due("guess(0, 2) of no GOAL", x.guess(0, 2), 0);
        // One ACTION that MAKES two counts for each.
        x.action(0, 3, 0, 7);
        x.put(1, 3);
        due("guess(0, 2) of two by one", x.guess(0, 2), 14);
    }

    private static void costsOfPlan() {
        PlanLandmarks x = new PlanLandmarks();
        x.action(0, 3, 0, 7);
        x.action(1, 4, 0, 9);
        x.action(2, 8, 0, 11);
        x.action(0, 0, 0, 99);
        x.put(1, 4 | 8);
        due("guess(0, 3): ACTION 0 once", x.guess(0, 3), 27);
        due("relaxed(0)", x.relaxed(0), 7);
        due("guess(1, 3)", x.guess(1, 3), 27);
        due("guess(3, 3)", x.guess(3, 3), 20);
        due("guess(12, 3): nothing", x.guess(12, 3), 0);
        due("relaxed(12): nothing", x.relaxed(12), 0);
    }

    private static void leastSolution() {
        PlanLandmarks x = new PlanLandmarks();
        // FACTS 0 and 1 MAKE one another for 1; 0 comes from nothing for 10 only.
        x.action(2, 1, 0, 1);
        x.action(1, 2, 0, 1);
        x.action(0, 1, 0, 10);
        x.put(1, 3);
        guessed(x, 0, 2, 11, 21, 11);
        // The cheapest way is the longest, and its ACTIONS stand the wrong way about.
        x = new PlanLandmarks();
        x.action(4, 8, 0, 2);
        x.action(2, 4, 0, 2);
        x.action(1, 2, 0, 2);
        x.action(0, 1, 0, 2);
        x.action(0, 8, 0, 90);
        x.action(8, 16, 0, 1);
        x.put(1, 16);
        due("guess(0, 1) by the longest", x.guess(0, 1), 9);
        due("guess(0, 2) by the longest", x.guess(0, 2), 9);
    }

    private static void guessedNone() {
        PlanLandmarks x = new PlanLandmarks();
        x.action(2, 4, 0, 1);
        x.action(4, 2, 0, 1);
        x.action(0, 1, 0, 1);
        x.put(1, 1 | 4);
        guessed(x, 0, 2, -1, -1, -1);
        due("relaxed(0)", x.relaxed(0), 0);
        due("helpful(0)", x.helpful(0), 0);
        guessed(x, 2, 2, 1, 2, 2);
        guessed(x, 4, 1, 1, 1, 1);
        x.put(1, 1 << 29);
        guessed(x, ALL & ~(1 << 29), 1, -1, -1, -1);
        due("REFUSALS -1", x.status(11), 0);
    }

    /** SUM doubles from pair to pair: FACTS 24 and 25 have 499,950 each, FACT 26 has 999,999. */
    private static PlanLandmarks doubling() {
        int[] costs = {24, 98, 98, 98, 99, 98, 99, 98, 99, 98, 98, 98, 98, 99};
        PlanLandmarks x = new PlanLandmarks();
        for (int a = 0; a < 14; a++) {
            x.action(a == 0 ? 0 : 3 << (2 * a - 2), a == 13 ? 1 << 26 : 3 << (2 * a), 0, costs[a]);
        }
        x.action(1 << 26, 1 << 27, 0, 1);
        x.action(1 << 26, 1 << 28, 0, 2);
        x.action(3 << 26, 1 << 29, 0, 1);
        return x;
    }

    private static void aboveAMillion() {
        PlanLandmarks x = doubling();
        int[][] goals = {{1 << 24, 499950}, {3 << 24, 999900}, {3 << 24 | 3, 999948}, {1 << 26, 999999},
            {1 << 27, 1000000}, {1 << 28, 1000000}, {1 << 29, 1000000}, {3 << 24 | 4, 1000000},
            {3 << 26, 1000000}, {3 << 28, 1000000}, {ALL, 1000000}};
        for (int[] goal : goals) {
            x.put(1, goal[0]);
            due("guess(0, 2) of GOAL " + goal[0], x.guess(0, 2), goal[1]);
        }
        x.put(1, 1 << 29);
        due("guess(0, 1), which is far below", x.guess(0, 1), 1304);
        due("guess(0, 3), which is far below", x.guess(0, 3), 1304);
        due("guess(1 << 26, 2): 0, 1 and the COST", x.guess(1 << 26, 2), 2);
    }

    private static void relaxedPlans() {
        CHECK.edge("WANTED at first are FACTS of GOAL that aren't in the STATE", EdgesOfRelaxedTest::wantedAtFirst);
        CHECK.edge("of these that of greatest FIRST LEVEL, of several the least, is looked at",
            EdgesOfRelaxedTest::allLookedAt);
        CHECK.edge("of the ACTIONS that MAKE it and have a FIRST LEVEL below its own", EdgesOfRelaxedTest::levelBelow);
        CHECK.edge("that of least SUM of NEEDS (as guess 2 has it) and COST together, of several the least",
            EdgesOfRelaxedTest::leastTogether);
        CHECK.edge("those of its NEEDS that aren't in the STATE are WANTED", EdgesOfRelaxedTest::needsWanted);
        CHECK.edge("ACTIONS that MAY be done in the STATE and MAKE a FACT that is WANTED at any time and has FIRST LEVEL 1",
            EdgesOfRelaxedTest::helpfulOnes);
    }

    private static void wantedAtFirst() {
        PlanLandmarks x = new PlanLandmarks();
        x.action(0, 1, 0, 1);
        x.action(0, 2, 0, 1);
        x.action(0, 4, 0, 1);
        x.put(1, 3);
        due("relaxed(0)", x.relaxed(0), 3);
        due("relaxed(1)", x.relaxed(1), 2);
        due("relaxed(2)", x.relaxed(2), 1);
        due("relaxed(3)", x.relaxed(3), 0);
        due("relaxed(4)", x.relaxed(4), 3);
        x.put(1, 0);
        due("relaxed(0) of no GOAL", x.relaxed(0), 0);
        due("helpful(0) of no GOAL", x.helpful(0), 0);
    }

    /** All at once: three FACTS of one LEVEL, one of which two others NEED too. */
    private static void allLookedAt() {
        PlanLandmarks x = new PlanLandmarks();
        x.action(0, 1, 0, 1);
        x.action(0, 2, 0, 2);
        x.action(0, 1 << 29, 0, 4);
        x.action(1, 4, 0, 8);
        x.action(1 | 2, 8, 0, 16);
        x.put(1, 4 | 8 | 1 << 29);
        due("relaxed(0)", x.relaxed(0), 31);
        due("guess(0, 3)", x.guess(0, 3), 31);
        x.put(1, 4);
        due("relaxed(0) of one", x.relaxed(0), 9);
    }

    private static void levelBelow() {
        PlanLandmarks x = new PlanLandmarks();
        // FACT 2 is in LEVEL 1 by ACTION 2. ACTION 0 is cheaper, but its own FIRST LEVEL is 1 too.
        x.action(2, 4, 0, 1);
        x.action(0, 2, 0, 1);
        x.action(0, 4, 0, 50);
        x.put(1, 4);
        due("relaxed(0)", x.relaxed(0), 4);
        guessed(x, 0, 1, 2, 2, 50);
        due("relaxed(2): FIRST LEVEL 0 then", x.relaxed(2), 1);
        // An ACTION whose NEEDS never come is none of them.
        x.action(16, 4, 0, 1);
        due("relaxed(0) with one that can't be", x.relaxed(0), 4);
    }

    private static void leastTogether() {
        PlanLandmarks x = new PlanLandmarks();
        x.action(0, 1, 0, 10);
        x.action(0, 2, 0, 5);
        x.action(0, 4, 0, 6);
        // FACT 3 by NEEDS of 10 and COST 3, or by NEEDS of 5 and 6 and COST 1: 13 is more than 12.
        x.action(1, 8, 0, 3);
        x.action(2 | 4, 8, 0, 1);
        x.put(1, 8);
        due("relaxed(0) by 13 or 12", x.relaxed(0), 2 | 4 | 16);
        x.action(1, 8, 0, 2);
        due("relaxed(0) by 13, 12 or 12", x.relaxed(0), 2 | 4 | 16);
        x.action(1, 8, 0, 1);
        due("relaxed(0) by 13, 12, 12 or 11", x.relaxed(0), 1 | 64);
        x.action(1, 8, 0, 1);
        due("relaxed(0) by one more of 11", x.relaxed(0), 1 | 64);
        // The greatest of the NEEDS would tell 3 (13) from 4 (7) the other way about than the sum (13, 14).
        x = new PlanLandmarks();
        x.action(0, 1, 0, 10);
        x.action(0, 2, 0, 6);
        x.action(0, 4, 0, 6);
        x.action(1, 8, 0, 3);
        x.action(2 | 4, 8, 0, 2);
        x.put(1, 8);
        due("relaxed(0) by 13 or 14", x.relaxed(0), 1 | 8);
    }

    private static void needsWanted() {
        PlanLandmarks x = new PlanLandmarks();
        x.action(0, 1, 0, 1);
        x.action(0, 2, 0, 1);
        x.action(3, 4, 0, 1);
        x.action(4, 8, 0, 1);
        x.put(1, 8);
        due("relaxed(0)", x.relaxed(0), 15);
        due("relaxed(1)", x.relaxed(1), 14);
        due("relaxed(3)", x.relaxed(3), 12);
        due("relaxed(4)", x.relaxed(4), 8);
        due("helpful(0)", x.helpful(0), 3);
        due("helpful(1)", x.helpful(1), 2);
        due("helpful(3)", x.helpful(3), 4);
    }

    private static void helpfulOnes() {
        PlanLandmarks x = new PlanLandmarks();
        x.action(0, 1, 0, 1);
        x.action(0, 1, 0, 99);
        x.action(0, 1 | 2, 1, 50);
        x.action(8, 1, 0, 1);
        x.action(1, 4, 0, 1);
        x.action(0, 8, 0, 1);
        x.action(0, 0, 0, 1);
        x.put(1, 4);
        // WANTED: 2, then 0. 3 and 4 MAY not be done yet, 5 and 6 MAKE nothing that is WANTED.
        due("helpful(0)", x.helpful(0), 7);
        due("relaxed(0)", x.relaxed(0), 1 | 16);
        due("helpful(8): 3 MAY be done", x.helpful(8), 15);
        due("helpful(1): 0 isn't WANTED", x.helpful(1), 16);
        due("helpful(4): GOAL is there", x.helpful(4), 0);
        due("helpful(ALL)", x.helpful(ALL), 0);
    }

    private static void landmarks() {
        CHECK.edge("FACTS of which, if it is a BAR, GOAL isn't in any LEVEL from START",
            EdgesOfRelaxedTest::barredGoal);
        CHECK.edge("(those of START and GOAL too; none, if GOAL isn't in any LEVEL as it is)",
            EdgesOfRelaxedTest::ofStartAndGoal);
        CHECK.edge("if with it as a BAR the other isn't in any LEVEL from START (it isn't itself)",
            EdgesOfRelaxedTest::aheadOnes);
    }

    private static void barredGoal() {
        PlanLandmarks x = new PlanLandmarks();
        x.action(0, 1, 0, 1);
        x.action(1, 2, 1, 1);
        x.action(1, 4, 0, 1);
        x.action(2, 8, 0, 1);
        x.action(4, 8, 0, 1);
        x.put(1, 8);
        due("landmarks() by two ways", x.landmarks(), 9);
        x.put(1, 8 | 4);
        due("landmarks(), one of the ways GOAL too", x.landmarks(), 13);
        x.put(0, 2);
        x.put(1, 8);
        due("landmarks(), one of the ways begun", x.landmarks(), 8);
        x = chain();
        x.put(1, 1 << 23);
        due("landmarks() of a chain", x.landmarks(), (1 << 24) - 1);
    }

    private static void ofStartAndGoal() {
        PlanLandmarks x = new PlanLandmarks();
        due("landmarks() of nothing", x.landmarks(), 0);
        x.action(1, 2, 0, 1);
        x.put(0, 1 | 1 << 29);
        x.put(1, 2);
        due("landmarks(), START's FACT 0 NEEDED, 29 not", x.landmarks(), 3);
        x.put(1, 2 | 1 << 29);
        due("landmarks(), FACT 29 of both", x.landmarks(), 3 | 1 << 29);
        x.put(1, 1);
        due("landmarks(), GOAL in START", x.landmarks(), 1);
        x.put(1, 0);
        due("landmarks() of no GOAL", x.landmarks(), 0);
        x.put(1, 1 | 4);
        due("landmarks(), GOAL not in any LEVEL", x.landmarks(), 0);
        x.put(1, ALL);
        due("landmarks(), all of GOAL", x.landmarks(), 0);
        x.put(0, ALL);
        due("landmarks(), all of START and GOAL", x.landmarks(), ALL);
    }

    private static void aheadOnes() {
        PlanLandmarks x = new PlanLandmarks();
        x.action(1, 2, 0, 1);
        x.action(2, 4, 0, 1);
        x.put(0, 1);
        int[][] want = {{0, 1, 1}, {0, 0, 1}, {0, 0, 0}};
        for (int fact = 0; fact < 3; fact++) {
            for (int other = 0; other < 3; other++) {
                due("isAhead(" + fact + ", " + other + ")", x.isAhead(fact, other), want[fact][other]);
            }
        }
        // Also where the other can't come at all; but no FACT is AHEAD of itself.
        due("isAhead(2, 29)", x.isAhead(2, 29), 1);
        for (int fact = 0; fact < 30; fact++) {
            due("isAhead(" + fact + ", " + fact + ")", x.isAhead(fact, fact), 0);
        }
        due("REFUSALS -1", x.status(11), 0);
    }
}
