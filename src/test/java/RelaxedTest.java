/** Promises 17 to 24: LEVELS, GUESSES, RELAXED PLAN, HELPFUL, LANDMARKS. */
public final class RelaxedTest {
    private static final Check CHECK = new Check("RelaxedTest");
    private static final int ALL = (1 << 30) - 1;

    private static void due(int promise, String call, long got, long want) {
        CHECK.due(promise, call, got, want);
    }

    public static void main(String[] args) {
        levels();
        levelsOfAChain();
        guesses();
        guessesAboveAMillion();
        guessesOfNeeds();
        relaxedPlans();
        helpfulOnes();
        landmarks();
        ahead();
        CHECK.end();
    }

    /** LEVELS from {0}: {0}; 1, 2 come; 3 comes; 4 comes. FACTS 5, 6 never do. */
    private static PlanLandmarks world() {
        PlanLandmarks x = new PlanLandmarks();
        x.action(0, Check.bits(1), 0, 4);
        x.action(Check.bits(1), Check.bits(2), Check.bits(1), 3);
        x.action(Check.bits(1), Check.bits(2, 3), 0, 3);
        x.action(Check.bits(2, 3), Check.bits(4), Check.bits(2, 3), 10);
        x.action(Check.bits(5), Check.bits(6), 0, 1);
        x.action(Check.bits(0), Check.bits(2), Check.bits(0), 9);
        x.action(Check.bits(0), Check.bits(7), 0, 1);
        x.put(1, Check.bits(2, 4));
        return x;
    }

    private static void levels() {
        PlanLandmarks x = world();
        int[] want = {1, 128 + 7, 128 + 15, 128 + 31, 128 + 31};
        for (int k = 0; k < want.length; k++) {
            due(17, "level(1, " + k + ")", x.level(1, k), want[k]);
        }
        due(17, "level(1, 30)", x.level(1, 30), 128 + 31);
        due(17, "level(ALL, 30)", x.level(ALL, 30), ALL);
        CHECK.refused(17, x, "");
        due(17, "level(1, 31)", x.level(1, 31), -6);
        due(17, "level(1, -1)", x.level(1, -1), -6);
        due(17, "level(-1, 0)", x.level(-1, 0), -6);
        due(17, "level(2^30, 0)", x.level(1 << 30, 0), -6);
        CHECK.refused(17, x, "-6 x 4");
        int[] firsts = {0, 1, 1, 2, 3, -1, -1, 1};
        for (int fact = 0; fact < firsts.length; fact++) {
            due(18, "first(1, " + fact + ")", x.first(1, fact), firsts[fact]);
        }
        due(18, "first(1, 29)", x.first(1, 29), -1);
        due(18, "first(1, 30)", x.first(1, 30), -11);
        due(18, "first(-1, -1)", x.first(-1, -1), -11);
        due(18, "first(-1, 0)", x.first(-1, 0), -16);
        CHECK.refused(18, x, "-1 x 2 -6 x 5");
        int[] ofActions = {0, 1, 1, 2, -1, 0, 0};
        for (int a = 0; a < ofActions.length; a++) {
            due(19, "firstOf(1, " + a + ")", x.firstOf(1, a), ofActions[a]);
        }
        due(19, "firstOf(1, 7)", x.firstOf(1, 7), -11);
        due(19, "firstOf(-1, -1)", x.firstOf(-1, -1), -11);
        due(19, "firstOf(-1, 0)", x.firstOf(-1, 0), -16);
        due(19, "firstOf(1 << 30, 0)", x.firstOf(1 << 30, 0), -16);
        CHECK.refused(19, x, "-1 x 4 -6 x 7");
    }

    private static void levelsOfAChain() {
        PlanLandmarks x = new PlanLandmarks();
        for (int a = 23; a >= 0; a--) {
            x.action(a == 0 ? 0 : 1 << (a - 1), 1 << a, 0, 1);
        }
        due(17, "level(0, 23)", x.level(0, 23), (1 << 23) - 1);
        due(17, "level(0, 24)", x.level(0, 24), (1 << 24) - 1);
        due(17, "level(0, 25)", x.level(0, 25), (1 << 24) - 1);
        due(18, "first(0, 23)", x.first(0, 23), 24);
        due(18, "first(0, 24)", x.first(0, 24), -1);
        due(19, "firstOf(0, 0)", x.firstOf(0, 0), 23);
        x.put(1, 1 << 23);
        for (int which = 1; which < 4; which++) {
            due(20, "guess(0, " + which + ")", x.guess(0, which), 24);
        }
        due(21, "relaxed(0)", x.relaxed(0), (1 << 24) - 1);
        due(22, "helpful(0)", x.helpful(0), 1 << 23);
    }

    private static void guesses() {
        PlanLandmarks x = world();
        due(20, "guess(1, 0)", x.guess(1, 0), 2);
        due(20, "guess(1, 1)", x.guess(1, 1), 17);
        due(20, "guess(1, 2)", x.guess(1, 2), 31);
        due(20, "guess(1, 3)", x.guess(1, 3), 26);
        int done = Check.bits(2, 4, 9);
        for (int which = 0; which < 4; which++) {
            due(20, "guess(done, " + which + ")", x.guess(done, which), 0);
        }
        x.put(1, Check.bits(2, 6));
        due(20, "guess(1, 0) of what can't be", x.guess(1, 0), 2);
        for (int which = 1; which < 4; which++) {
            due(20, "guess of what can't be", x.guess(1, which), -1);
        }
        due(20, "guess(32, 0)", x.guess(32, 0), 2);
        due(20, "guess(32, 1)", x.guess(32, 1), 7);
        due(20, "guess(32, 2)", x.guess(32, 2), 8);
        due(20, "guess(32, 3)", x.guess(32, 3), 8);
        x.put(1, 0);
        due(20, "guess(0, 2) of no GOAL", x.guess(0, 2), 0);
        CHECK.refused(20, x, "");
        due(20, "guess(-1, 4)", x.guess(-1, 4), -11);
        due(20, "guess(0, -1)", x.guess(0, -1), -11);
        due(20, "guess(-1, 3)", x.guess(-1, 3), -16);
        due(20, "guess(1 << 30, 0)", x.guess(1 << 30, 0), -16);
        CHECK.refused(20, x, "-1 x 2 -6 x 2");
    }

    private static void guessesAboveAMillion() {
        PlanLandmarks x = new PlanLandmarks();
        for (int a = 0; a < 14; a++) {
            x.action(a == 0 ? 0 : 3 << (2 * a - 2), 3 << (2 * a), 0, 99);
        }
        // FACTS 2a and 2a + 1 have SUM 99 times (2 to the a + 1, less 1).
        x.put(1, 1 << 24);
        due(20, "guess 2 below a million", x.guess(0, 2), 810909);
        x.put(1, 3 << 24);
        due(20, "guess 2 of GOAL above a million", x.guess(0, 2), 1000000);
        x.put(1, 1 << 26);
        due(20, "guess 2 of a FACT above a million", x.guess(0, 2), 1000000);
        due(20, "guess 1 there", x.guess(0, 1), 14 * 99);
        due(20, "guess 3 there", x.guess(0, 3), 14 * 99);
        // Both ways to FACT 28 count as a million: the lower number is taken, though it costs more.
        x.action(1 << 26, 1 << 28, 0, 50);
        x.action(1 << 26, 1 << 28, 0, 1);
        x.put(1, 1 << 28);
        due(20, "guess 2 of FACT 28", x.guess(0, 2), 1000000);
        due(21, "relaxed(0) of two that cost a million", x.relaxed(0), (1 << 15) - 1);
        due(20, "guess 3 of FACT 28", x.guess(0, 3), 14 * 99 + 50);
        due(20, "guess 1 of FACT 28", x.guess(0, 1), 14 * 99 + 1);
    }

    /** A cheaper way that is longer counts for GUESSES 1 and 2, whatever the LEVELS. */
    private static void guessesOfNeeds() {
        PlanLandmarks x = new PlanLandmarks();
        x.action(Check.bits(2), Check.bits(3), 0, 2);
        x.action(Check.bits(1), Check.bits(2), 0, 2);
        x.action(0, Check.bits(1), 0, 2);
        x.action(0, Check.bits(3), 0, 50);
        x.action(Check.bits(3, 1), Check.bits(4), 0, 1);
        x.put(1, Check.bits(4));
        due(20, "guess(0, 1)", x.guess(0, 1), 7);
        due(20, "guess(0, 2)", x.guess(0, 2), 9);
        due(20, "guess(0, 3)", x.guess(0, 3), 53);
        due(21, "relaxed(0)", x.relaxed(0), Check.bits(2, 3, 4));
        x.put(1, Check.bits(4, 1));
        due(20, "guess(0, 1) of two", x.guess(0, 1), 7);
        due(20, "guess(0, 2) of two", x.guess(0, 2), 11);
        due(20, "guess(2, 2)", x.guess(2, 2), 5);
    }

    private static void relaxedPlans() {
        PlanLandmarks x = world();
        due(21, "relaxed(1)", x.relaxed(1), Check.bits(0, 2, 3, 5));
        due(21, "relaxed(3)", x.relaxed(3), Check.bits(1, 2, 3));
        due(21, "relaxed of GOAL", x.relaxed(Check.bits(2, 4)), 0);
        x.put(1, Check.bits(6));
        due(21, "relaxed of what can't be", x.relaxed(1), 0);
        CHECK.refused(21, x, "");
        due(21, "relaxed(-1)", x.relaxed(-1), -6);
        due(21, "relaxed(2^30)", x.relaxed(1 << 30), -6);
        CHECK.refused(21, x, "-6 x 2");
        // One ACTION for two WANTED FACTS stands in it once; of two alike the lower number.
        x = new PlanLandmarks();
        x.action(0, Check.bits(0, 1), 0, 5);
        x.action(0, Check.bits(1), 0, 5);
        x.action(0, Check.bits(0), 0, 6);
        x.put(1, 3);
        due(21, "relaxed(0) of two by one", x.relaxed(0), 1);
        due(20, "guess(0, 3) of two by one", x.guess(0, 3), 5);
    }

    private static void helpfulOnes() {
        PlanLandmarks x = world();
        due(22, "helpful(1)", x.helpful(1), Check.bits(0, 5));
        // FACT 2 is WANTED and comes by 1, 2 and 5, of which the RELAXED PLAN has but one.
        due(22, "helpful(3)", x.helpful(3), Check.bits(1, 2, 5));
        due(22, "helpful of GOAL", x.helpful(Check.bits(2, 4)), 0);
        x.put(1, Check.bits(4, 6));
        due(22, "helpful of what can't be", x.helpful(1), 0);
        CHECK.refused(22, x, "");
        due(22, "helpful(-1)", x.helpful(-1), -6);
        due(22, "helpful(2^30)", x.helpful(1 << 30), -6);
        CHECK.refused(22, x, "-6 x 2");
        // An ACTION that MAKES a FACT of GOAL that is there already helps nothing.
        x = new PlanLandmarks();
        x.action(0, Check.bits(0), 0, 1);
        x.action(0, Check.bits(1), 0, 1);
        x.put(1, 3);
        due(22, "helpful(1) of two", x.helpful(1), Check.bits(1));
    }

    /** To FACT 4 by 3, to that by 1 or 2, to these by 0. */
    private static PlanLandmarks forked() {
        PlanLandmarks x = new PlanLandmarks();
        x.action(Check.bits(0), Check.bits(1), Check.bits(0), 1);
        x.action(Check.bits(0), Check.bits(2), 0, 1);
        x.action(Check.bits(1), Check.bits(3), 0, 1);
        x.action(Check.bits(2), Check.bits(3), 0, 1);
        x.action(Check.bits(3), Check.bits(4), 0, 1);
        x.action(Check.bits(4), Check.bits(0, 9), 0, 1);
        x.put(0, Check.bits(0, 9));
        x.put(1, Check.bits(4));
        return x;
    }

    private static void landmarks() {
        PlanLandmarks x = forked();
        due(23, "landmarks()", x.landmarks(), Check.bits(0, 3, 4));
        x.put(1, Check.bits(4, 9));
        due(23, "landmarks() with a FACT of both", x.landmarks(), Check.bits(0, 3, 4, 9));
        x.put(1, Check.bits(4, 11));
        due(23, "landmarks() of what can't be", x.landmarks(), 0);
        x.put(1, 0);
        due(23, "landmarks() of no GOAL", x.landmarks(), 0);
        CHECK.refused(23, x, "");
    }

    private static void ahead() {
        PlanLandmarks x = forked();
        int[][] want = {{0, 1, 1, 1, 1}, {0, 0, 0, 0, 0}, {0, 0, 0, 0, 0}, {0, 0, 0, 0, 1}, {0, 0, 0, 0, 0}};
        for (int fact = 0; fact < 5; fact++) {
            for (int other = 0; other < 5; other++) {
                due(24, "isAhead(" + fact + ", " + other + ")", x.isAhead(fact, other), want[fact][other]);
            }
        }
        due(24, "isAhead(0, 9)", x.isAhead(0, 9), 0);
        due(24, "isAhead(9, 4)", x.isAhead(9, 4), 0);
        due(24, "isAhead of what can't be", x.isAhead(1, 29), 1);
        due(24, "isAhead(29, 29)", x.isAhead(29, 29), 0);
        x.put(1, 0);
        due(24, "isAhead(0, 4) without GOAL", x.isAhead(0, 4), 1);
        CHECK.refused(24, x, "");
        due(24, "isAhead(30, 0)", x.isAhead(30, 0), -1);
        due(24, "isAhead(0, 30)", x.isAhead(0, 30), -1);
        due(24, "isAhead(-1, -1)", x.isAhead(-1, -1), -1);
        CHECK.refused(24, x, "-1 x 3");
    }
}
