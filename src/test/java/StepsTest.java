/** Promises 36 to 42: GREEDY, WALK, SEED, the trace, THE IMAGE, status. */
public final class StepsTest {
    private static final Check CHECK = new Check("StepsTest");

    private static void due(int promise, String call, long got, long want) {
        CHECK.due(promise, call, got, want);
    }

    public static void main(String[] args) {
        greedyByLeft();
        greedyByEach();
        greedyToNone();
        walks();
        walksToTheEnd();
        seeds();
        images();
        statuses();
        CHECK.end();
    }

    private static void traced(PlanLandmarks x, int... want) {
        due(42, "status(6)", x.status(6), want.length);
        due(39, "trace(-1)", x.trace(-1), -1);
        for (int i = 0; i < want.length; i++) {
            due(39, "trace(" + i + ")", x.trace(i), want[i]);
        }
        due(39, "trace(" + want.length + ")", x.trace(want.length), -1);
        due(39, "trace(40)", x.trace(40), -1);
        due(39, "trace(MIN)", x.trace(Integer.MIN_VALUE), -1);
    }

    private static void greedyByLeft() {
        PlanLandmarks x = new PlanLandmarks();
        x.action(0, 1, 0, 1);
        x.action(1, 6, 1, 1);
        x.action(0, 2, 0, 1);
        x.action(0, 4, 2, 1);
        x.put(1, 7);
        x.put(0, 16);
        due(36, "greedy(0, 1)", x.greedy(0, 1), 1);
        due(36, "NOW", x.status(3), 1);
        traced(x, 0);
        // From {0}: by 0 lack 2 FACTS; by 1, 2 and 3 but one: the least of these is done.
        due(36, "greedy(0, 40)", x.greedy(0, 40), 2);
        due(36, "NOW", x.status(3), 7);
        traced(x, 1, 0);
        due(36, "greedy(0, 5) at GOAL", x.greedy(0, 5), 0);
        traced(x);
        due(36, "NOW", x.status(3), 7);
        due(36, "START", x.status(1), 16);
        CHECK.refused(36, x, "");
        x.put(2, 0);
        x.greedy(0, 2);
        traced(x, 0, 1);
        due(36, "greedy(4, 0)", x.greedy(4, 0), -1);
        due(36, "greedy(-1, 1)", x.greedy(-1, 1), -1);
        due(36, "greedy(0, 0)", x.greedy(0, 0), -6);
        due(36, "greedy(3, 41)", x.greedy(3, 41), -6);
        due(36, "greedy(0, -1)", x.greedy(0, -1), -6);
        traced(x, 0, 1);
        CHECK.refused(36, x, "-1 x 2 -6 x 3");
    }

    /** Three doors from FACT 29, behind each another way to GOAL: each of GUESSES 1 to 3 likes another. */
    private static void greedyByEach() {
        PlanLandmarks x = new PlanLandmarks();
        int door = Check.bits(29);
        x.action(door, Check.bits(0), door, 1);
        x.action(door, Check.bits(1), door, 1);
        x.action(door, Check.bits(2), door, 1);
        // Behind 0 20 for each of both: GREATEST 20, SUM 40, PLAN 40.
        x.action(Check.bits(0), Check.bits(8), 0, 20);
        x.action(Check.bits(0), Check.bits(9), 0, 20);
        // Behind 1 5 and 25: GREATEST 25, SUM 30, PLAN 30.
        x.action(Check.bits(1), Check.bits(8), 0, 5);
        x.action(Check.bits(1), Check.bits(9), 0, 25);
        // Behind 2 both by one of 26: GREATEST 26, SUM 52, PLAN 26.
        x.action(Check.bits(2), Check.bits(8, 9), 0, 26);
        x.put(1, Check.bits(8, 9));
        int[][] guesses = {{2, 2, 2}, {20, 25, 26}, {40, 30, 52}, {40, 30, 26}};
        int[] likes = {0, 0, 1, 2};
        for (int which = 0; which < 4; which++) {
            for (int a = 0; a < 3; a++) {
                due(20, "guess(" + (1 << a) + ", " + which + ")", x.guess(1 << a, which), guesses[which][a]);
            }
            x.put(2, door);
            due(36, "greedy(" + which + ", 1)", x.greedy(which, 1), 1);
            due(39, "trace(0) by " + which, x.trace(0), likes[which]);
            due(36, "NOW by " + which, x.status(3), 1 << likes[which]);
        }
        due(36, "START", x.status(1), 0);
        CHECK.refused(36, x, "");
    }

    private static void greedyToNone() {
        PlanLandmarks x = new PlanLandmarks();
        due(36, "greedy(1, 4) at no GOAL", x.greedy(1, 4), 0);
        x.put(1, 8);
        due(36, "greedy(1, 4) of no ACTIONS", x.greedy(1, 4), 0);
        // All that comes is GUESSED NONE, but LEFT is never NONE.
        x.action(0, 1, 0, 1);
        for (int which = 1; which < 4; which++) {
            due(36, "greedy of NONE", x.greedy(which, 4), 0);
            due(36, "NOW", x.status(3), 0);
            traced(x);
        }
        due(36, "greedy(0, 4)", x.greedy(0, 4), 4);
        traced(x, 0, 0, 0, 0);
        // LEFT takes 0, after which nothing MAY be done; by the others what comes of 0 is NONE.
        for (int which = 0; which < 4; which++) {
            x = new PlanLandmarks();
            x.action(1, 4, 1, 1);
            x.action(1, 8, 0, 9);
            x.action(9, 6, 0, 99);
            x.put(1, 6);
            x.put(2, 1);
            due(36, "greedy by " + which, x.greedy(which, 9), which == 0 ? 1 : 2);
            due(36, "NOW by " + which, x.status(3), which == 0 ? 4 : 15);
            due(39, "trace(0) by " + which, x.trace(0), which == 0 ? 0 : 1);
            due(39, "trace(1) by " + which, x.trace(1), which == 0 ? -1 : 2);
            // Now 0 is all there is: it isn't done, if what comes is NONE.
            x = new PlanLandmarks();
            x.action(1, 4, 1, 1);
            x.put(1, 6);
            x.put(2, 1);
            due(36, "greedy to NONE by " + which, x.greedy(which, 9), which == 0 ? 1 : 0);
            due(36, "NOW by " + which, x.status(3), which == 0 ? 4 : 1);
        }
        CHECK.refused(36, x, "");
    }

    private static void walks() {
        PlanLandmarks x = new PlanLandmarks();
        x.action(1, 1, 0, 1);
        for (int a = 1; a < 6; a++) {
            x.action(0, 1 << a, 0, 1);
        }
        // DRAWS below 5 (ACTION 0 MAY not be done): 16838, 38526, 10113, 50283 modulo 5.
        due(37, "walk(4)", x.walk(4), 4);
        traced(x, 4, 2, 4, 4);
        due(37, "NOW", x.status(3), Check.bits(2, 4));
        due(37, "SEED", x.status(4), (int) 3295386429L);
        CHECK.refused(37, x, "");
        due(37, "walk(0)", x.walk(0), -6);
        due(37, "walk(41)", x.walk(41), -6);
        due(37, "walk(-1)", x.walk(-1), -6);
        traced(x, 4, 2, 4, 4);
        CHECK.refused(37, x, "-6 x 3");
        due(37, "walk(40)", x.walk(40), 40);
        due(39, "trace(39)", Integer.signum(x.trace(39)), 1);
        due(42, "status(6)", x.status(6), 40);
        // No sign: the upper 16 bits of the next SEED are 65535.
        x = new PlanLandmarks();
        x.action(0, 1, 0, 1);
        x.action(0, 2, 0, 1);
        x.action(0, 4, 0, 1);
        x.action(0, 8, 0, 1);
        x.action(0, 16, 0, 1);
        x.action(0, 32, 0, 1);
        x.action(0, 64, 0, 1);
        x.seed(seedAhead(0xFFFF0000));
        due(37, "walk(1)", x.walk(1), 1);
        due(37, "SEED", x.status(4), 0xFFFF0000);
        traced(x, 65535 % 7);
    }

    /** The SEED of which the next is this one. */
    private static int seedAhead(int next) {
        int inverse = 1;
        for (int i = 0; i < 6; i++) {
            inverse *= 2 - 1103515245 * inverse;
        }
        return (next - 12345) * inverse;
    }

    private static void walksToTheEnd() {
        PlanLandmarks x = new PlanLandmarks();
        due(37, "walk(9) of no ACTIONS", x.walk(9), 0);
        due(37, "SEED without a DRAW", x.status(4), 1);
        x.action(1, 2, 1, 1);
        x.action(2, 4, 2, 1);
        x.put(2, 1);
        // GOAL has nothing: WALK doesn't look at it.
        due(37, "walk(9)", x.walk(9), 2);
        due(37, "NOW", x.status(3), 4);
        due(37, "SEED behind two DRAWS", x.status(4), (int) 2524885223L);
        traced(x, 0, 1);
        due(37, "walk(9) at the end", x.walk(9), 0);
        traced(x);
    }

    private static void seeds() {
        PlanLandmarks x = new PlanLandmarks();
        due(38, "seed(-7)", x.seed(-7), 1);
        due(38, "status(4)", x.status(4), -7);
        due(38, "seed(MAX)", x.seed(Integer.MAX_VALUE), -7);
        due(38, "seed(0)", x.seed(0), Integer.MAX_VALUE);
        x.action(0, 1, 0, 1);
        x.walk(1);
        due(38, "SEED behind a DRAW of 1", x.seed(5), 12345);
        CHECK.refused(38, x, "");
    }

    private static void images() {
        PlanLandmarks x = new PlanLandmarks();
        due(41, "restore() of none", x.restore(), -6);
        x.action(0, 1, 0, 1);
        x.macro(0, 0);
        x.put(0, 2);
        x.put(1, 3);
        x.put(2, 4);
        x.seed(9);
        due(40, "image()", x.image(), 2);
        x.action(8, 8, 0, 7);
        x.macro(2, 2);
        x.put(0, 5);
        x.put(1, 6);
        x.put(2, 7);
        x.walk(3);
        Check.readText(x, "now x");
        Check.numbers(x, 4, 1, 2, 3);
        x.show(1, 1);
        x.show(2, 2);
        x.show(3, 3);
        x.show(0, 3);
        x.show(7, 2);
        for (int again = 0; again < 2; again++) {
            due(41, "restore()", x.restore(), 2);
            int[] want = {2, 2, 3, 4, 9, 1, 3};
            for (int what = 0; what < want.length; what++) {
                due(41, "status(" + what + ")", x.status(what), want[what]);
            }
            due(41, "holds(4)", x.holds(4), 102);
            due(41, "element(4, 2)", x.element(4, 2), 3);
            due(41, "holds(0)", x.holds(0), -1);
            due(41, "holds(7)", x.holds(7), again == 0 ? -1 : 102);
            due(41, "holds(1)", x.holds(1), 1);
            due(41, "holds(2)", x.holds(2), -1);
            due(41, "holds(3)", x.holds(3), -1);
            due(41, "fault()", x.fault(), 4);
            due(41, "actionOf(2, 0)", x.actionOf(2, 0), -5);
            due(41, "actionOf(1, 6)", x.actionOf(1, 6), 0);
            x.action(16, 16, 0, 6);
            due(41, "the new ACTION", x.actionOf(2, 1), 16);
            x.action(32, 32, 0, 6);
            due(41, "KIND where a DEEP was", x.actionOf(3, 0), 0);
            due(41, "the first where a DEEP was", x.actionOf(3, 5), -1);
            Check.numbers(x, 7, 1);
            due(41, "holds(2) with a new ACTION", x.holds(2), -1);
            x.put(0, 1);
        }
        due(40, "image() anew", x.image(), 4);
        x.put(0, 29);
        due(41, "restore()", x.restore(), 4);
        due(41, "START", x.status(1), 1);
        due(41, "COST", x.actionOf(2, 4), 6);
        CHECK.refused(41, x, "-5 x 2 -6 x 2");
    }

    private static void statuses() {
        PlanLandmarks x = new PlanLandmarks();
        x.action(0, 1, 0, 1);
        x.macro(0, 0);
        x.macro(1, 1);
        x.put(0, 10);
        x.put(1, 20);
        x.put(2, 30);
        x.seed(-3);
        x.walk(7);
        int seed = x.status(4);
        int[] want = {3, 10, 20, 31, seed, 2, 7};
        for (int what = 0; what < want.length; what++) {
            due(42, "status(" + what + ")", x.status(what), want[what]);
        }
        x.show(8, 0);
        x.show(0, 0);
        for (int i = 0; i < 2; i++) {
            x.set(0, 0, 0);
        }
        for (int i = 0; i < 3; i++) {
            x.set(1, 0, 0);
        }
        x.row(2, 0, -1);
        x.state(99);
        x.first(-1, 0);
        x.first(0, 30);
        x.row(2, 0, 161);
        for (int what : new int[] {-1, 7, 8, 9, 10, 18, 100, Integer.MIN_VALUE, Integer.MAX_VALUE}) {
            due(42, "status(" + what + ")", x.status(what), -1);
        }
        int[] refused = {2, 2, 3, 1, 1, 1, 1};
        for (int i = 0; i < refused.length; i++) {
            due(42, "status(" + (11 + i) + ")", x.status(11 + i), refused[i]);
        }
    }
}
