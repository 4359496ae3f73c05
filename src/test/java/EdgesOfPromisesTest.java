/** Promises 1 to 42: each sentence that names an edge has a test of its own; RefusalsTest has the REFUSALS. */
public final class EdgesOfPromisesTest {
    private static final Check CHECK = new Check("EdgesOfPromisesTest");
    private static final int ALL = (1 << 30) - 1;
    private static final int MAX = Integer.MAX_VALUE;
    private static final int MIN = Integer.MIN_VALUE;

    private static void due(String call, long got, long want) {
        CHECK.due(call, got, want);
    }

    public static void main(String[] args) {
        rows();
        actions();
        relaxed();
        states();
        toldPlans();
        steps();
        imageAndStatus();
        CHECK.end();
    }

    private static void rows() {
        CHECK.edge("No ACTIONS; START, GOAL, NOW have nothing", EdgesOfPromisesTest::newObject);
        CHECK.edge("SHELF s holds a new ROW: 1", EdgesOfPromisesTest::newRow);
        CHECK.edge("-7 n above 160", EdgesOfPromisesTest::rowAbove160);
        CHECK.edge("Element i of the ROW becomes v: 1", EdgesOfPromisesTest::elementBecomes);
        CHECK.edge("come to elements j, j + 1, .. of that in q (as they were ahead)", EdgesOfPromisesTest::asTheyWere);
        CHECK.edge("-2 also of two SORTS (when both hold something)", EdgesOfPromisesTest::twoSorts);
        CHECK.edge("-5 i or j below 0, or an end that isn't there", EdgesOfPromisesTest::endsOfCopy);
        CHECK.edge("Element i of the ROW; 0 if there is none (nothing is refused)", EdgesOfPromisesTest::noElement);
        CHECK.edge("SHELF s holds one of the ACTIONS, or NOTHING (a NONE): 1, 0", EdgesOfPromisesTest::shown);
        CHECK.edge("NONE NOTHING, or no such SHELF; an ACTION's number; 100 and the SORT of a ROW",
            EdgesOfPromisesTest::held);
        CHECK.edge("ACTION its COST; MACRO 100 times the first, and the second it is of; DEEP how many ACTIONS "
            + "(that are no MACROS) it comes to", EdgesOfPromisesTest::said);
        CHECK.edge("-2 also one of another KIND", EdgesOfPromisesTest::saidOfAnotherKind);
    }

    private static void newObject() {
        PlanLandmarks x = new PlanLandmarks();
        int[] want = {0, 0, 0, 0, 1, 0, 0, -1, -1, -1, -1, 0, 0, 0, 0, 0, 0, 0, -1};
        for (int what = 0; what < want.length; what++) {
            due("status(" + what + ")", x.status(what), want[what]);
        }
        due("may(ALL)", x.may(ALL), 0);
        due("level(5, 30)", x.level(5, 30), 5);
        due("landmarks()", x.landmarks(), 0);
        due("reached()", x.reached(), 1);
        due("best(0)", x.best(0), 0);
        due("best(1)", x.best(1), 0);
        due("bestAt(0)", x.bestAt(0), -1);
        due("fault()", x.fault(), -1);
        due("trace(0)", x.trace(0), -1);
        due("actionOf(0, 0)", x.actionOf(0, 0), -5);
        due("restore()", x.restore(), -6);
        // What one object is told, another doesn't know.
        x.action(0, 1, 0, 1);
        due("status(0) of another", new PlanLandmarks().status(0), 0);
    }

    private static void newRow() {
        PlanLandmarks x = new PlanLandmarks();
        due("row(0, 2, 3)", x.row(0, 2, 3), 1);
        x.set(0, 2, 9);
        due("row(0, 2, 3) again", x.row(0, 2, 3), 1);
        due("element(0, 2)", x.element(0, 2), 0);
        x.set(0, 2, 9);
        due("row(0, 3, 1)", x.row(0, 3, 1), 1);
        due("element(0, 2)", x.element(0, 2), 0);
        due("row(0, 2, 3) once more", x.row(0, 2, 3), 1);
        due("element(0, 2), not what was there", x.element(0, 2), 0);
        due("row(0, 0, 0)", x.row(0, 0, 0), 1);
        due("set(0, 0, 1)", x.set(0, 0, 1), -5);
        due("holds(1), left alone", x.holds(1), -1);
    }

    private static void rowAbove160() {
        PlanLandmarks x = new PlanLandmarks();
        due("row(0, 0, 160)", x.row(0, 0, 160), 1);
        due("row(0, 0, 161)", x.row(0, 0, 161), -7);
        due("row(0, 0, MAX)", x.row(0, 0, MAX), -7);
        due("set(0, 159, 1)", x.set(0, 159, 1), 1);
        due("row(0, 0, 0)", x.row(0, 0, 0), 1);
        due("row(0, 0, -1)", x.row(0, 0, -1), -4);
    }

    private static void elementBecomes() {
        PlanLandmarks x = new PlanLandmarks();
        x.row(0, 3, 3);
        due("set(0, 0, 5)", x.set(0, 0, 5), 1);
        due("set(0, 2, -5)", x.set(0, 2, -5), 1);
        due("set(0, 2, MIN)", x.set(0, 2, Long.MIN_VALUE), 1);
        due("set(0, 3, 5)", x.set(0, 3, 5), -5);
        due("set(0, -1, 5)", x.set(0, -1, 5), -5);
        due("element(0, 0)", x.element(0, 0), 5);
        due("element(0, 1)", x.element(0, 1), 0);
        due("element(0, 2)", x.element(0, 2), Long.MIN_VALUE);
    }

    private static void asTheyWere() {
        for (int shift = -4; shift <= 4; shift++) {
            PlanLandmarks x = new PlanLandmarks();
            Check.numbers(x, 0, 10, 11, 12, 13, 14, 15, 16, 17);
            int from = Math.max(0, -shift);
            due("copy within one by " + shift, x.copy(0, 0, from, from + shift, 4), 1);
            for (int i = 0; i < 8; i++) {
                int at = i - shift;
                boolean copied = at >= from && at < from + 4;
                due("element(0, " + i + ")", x.element(0, i), 10 + (copied ? at : i));
            }
        }
    }

    private static void twoSorts() {
        for (int one = 0; one < 4; one++) {
            for (int other = 0; other < 4; other++) {
                PlanLandmarks x = new PlanLandmarks();
                x.row(0, one, 2);
                x.row(1, other, 2);
                x.set(0, 1, 6);
                due("copy of SORTS " + one + ", " + other, x.copy(0, 1, 1, 0, 1), one == other ? 1 : -2);
                due("element(1, 0)", x.element(1, 0), one == other ? 6 : 0);
                due("copy to NOTHING", x.copy(0, 2, 0, 0, 1), -3);
                due("copy from NOTHING", x.copy(2, 1, 0, 0, 1), -3);
                due("copy of none", x.copy(0, 1, 0, 0, 0), one == other ? 1 : -2);
            }
        }
    }

    private static void endsOfCopy() {
        PlanLandmarks x = new PlanLandmarks();
        x.row(0, 2, 4);
        x.row(1, 2, 3);
        for (int i = -1; i <= 5; i++) {
            for (int j = -1; j <= 4; j++) {
                for (int n = 0; n <= 4; n++) {
                    boolean there = i >= 0 && j >= 0 && i + n <= 4 && j + n <= 3;
                    due("copy(0, 1, " + i + ", " + j + ", " + n + ")", x.copy(0, 1, i, j, n), there ? 1 : -5);
                }
            }
        }
        due("copy(0, 1, 1, 1, MAX)", x.copy(0, 1, 1, 1, MAX), -5);
        due("copy(0, 1, MAX, MAX, MAX)", x.copy(0, 1, MAX, MAX, MAX), -5);
        due("copy(0, 1, MAX, 0, 1)", x.copy(0, 1, MAX, 0, 1), -5);
        due("copy(0, 1, MIN, 0, 1)", x.copy(0, 1, MIN, 0, 1), -5);
    }

    private static void noElement() {
        PlanLandmarks x = new PlanLandmarks();
        x.action(0, 0, 0, 1);
        x.row(0, 3, 160);
        x.show(1, 0);
        for (int i = 0; i < 160; i++) {
            x.set(0, i, -1);
        }
        due("element(0, 0)", x.element(0, 0), -1);
        due("element(0, 159)", x.element(0, 159), -1);
        for (int odd : new int[] {-1, 160, 161, MAX, MIN}) {
            due("element(0, " + odd + ")", x.element(0, odd), 0);
            due("element(" + odd + ", 0)", x.element(odd, 0), 0);
        }
        due("element(8, 0)", x.element(8, 0), 0);
        due("element(1, 0) of an ACTION", x.element(1, 0), 0);
        due("element(2, 0) of NOTHING", x.element(2, 0), 0);
        x.show(0, -1);
        due("element(0, 0) behind show", x.element(0, 0), 0);
        for (int what = 11; what <= 17; what++) {
            due("status(" + what + ")", x.status(what), 0);
        }
    }

    private static void shown() {
        PlanLandmarks x = new PlanLandmarks();
        due("show(0, 0) of no ACTIONS", x.show(0, 0), -1);
        due("show(0, NONE) of no ACTIONS", x.show(0, -1), 0);
        for (int a = 0; a < 24; a++) {
            x.action(0, 0, 0, 1 + a);
        }
        due("show(7, 23)", x.show(7, 23), 1);
        due("says(7, 0)", x.says(7, 0), 24);
        due("show(7, 24)", x.show(7, 24), -1);
        due("show(7, -2)", x.show(7, -2), -1);
        due("holds(7)", x.holds(7), 23);
        due("show(7, 0) over it", x.show(7, 0), 1);
        due("holds(7)", x.holds(7), 0);
        due("show(6, 0) in another too", x.show(6, 0), 1);
        due("show(7, NONE)", x.show(7, -1), 0);
        due("holds(7)", x.holds(7), -1);
        due("holds(6)", x.holds(6), 0);
    }

    private static void held() {
        PlanLandmarks x = new PlanLandmarks();
        for (int a = 0; a < 24; a++) {
            x.action(0, 0, 0, 1);
            x.show(0, a);
            due("holds(0) of ACTION " + a, x.holds(0), a);
        }
        for (int sort = 0; sort < 4; sort++) {
            x.row(0, sort, 0);
            due("holds(0) of sort " + sort, x.holds(0), 100 + sort);
        }
        due("holds(7)", x.holds(7), -1);
        due("holds(8)", x.holds(8), -1);
        due("holds(-1)", x.holds(-1), -1);
        due("REFUSALS -1", x.status(11), 0);
        due("REFUSALS -3", x.status(13), 0);
    }

    private static void said() {
        PlanLandmarks x = new PlanLandmarks();
        x.action(0, 0, 0, 1);
        x.action(0, 0, 0, 99);
        x.macro(0, 0);
        x.macro(2, 0);
        x.macro(0, 2);
        x.macro(3, 4);
        for (int a = 6; a < 23; a++) {
            x.action(0, 0, 0, 1);
        }
        x.macro(22, 21);
        int[][] want = {{0, 0, 1}, {1, 0, 99}, {2, 0, 2}, {2, 1, 0}, {3, 0, 3}, {3, 1, 200}, {3, 2, 3}, {4, 1, 2},
            {4, 2, 3}, {5, 0, 6}, {5, 1, 304}, {5, 2, 6}, {23, 0, 2}, {23, 1, 2221}};
        for (int[] c : want) {
            x.show(0, c[0]);
            due("says of " + c[0] + " as " + c[1], x.says(0, c[1]), c[2]);
        }
        // The most that one can come to: 64 and 32 and 2 and 1 of COST 1.
        x = new PlanLandmarks();
        x.action(0, 0, 0, 1);
        for (int a = 0; a < 6; a++) {
            x.macro(a, a);
        }
        x.macro(6, 5);
        x.macro(7, 1);
        x.macro(8, 0);
        x.show(0, 9);
        due("COST", x.says(0, 0), 99);
        due("how many ACTIONS", x.says(0, 2), 99);
    }

    private static void saidOfAnotherKind() {
        PlanLandmarks x = new PlanLandmarks();
        x.action(0, 0, 0, 1);
        x.macro(0, 0);
        x.macro(1, 0);
        for (int a = 0; a < 3; a++) {
            x.show(a, a);
            for (int kind = 0; kind < 3; kind++) {
                boolean isOne = kind <= a;
                due("says(" + a + ", " + kind + ") or OTHER", x.says(a, kind) == -2 ? -2 : 1, isOne ? 1 : -2);
            }
        }
        x.row(3, 0, 1);
        due("says of a ROW", x.says(3, 0), -2);
        due("says of NOTHING", x.says(4, 0), -3);
        due("REFUSALS -2", x.status(12), 4);
    }

    private static void actions() {
        CHECK.edge("A new ACTION: its number", EdgesOfPromisesTest::newAction);
        CHECK.edge("MACRO of a, then b as a new ACTION: its number", EdgesOfPromisesTest::newMacro);
        CHECK.edge("A TEXT by the ROW in SHELF s: how many ITEMS", EdgesOfPromisesTest::howManyItems);
        CHECK.edge("The FAULT of the latest read() that came to a ROW; NONE: there was none, or none yet",
            EdgesOfPromisesTest::latestFault);
        CHECK.edge("START (what 0), GOAL (1), NOW (2) becomes a set: what it was", EdgesOfPromisesTest::whatItWas);
        CHECK.edge("5, 6 the first, second it is of (NONE: it is no MACRO)", EdgesOfPromisesTest::firstAndSecond);
        CHECK.edge("-5: no such one, another what", EdgesOfPromisesTest::noSuchAction);
        CHECK.edge("ACTIONS (bits) that MAY be done in a STATE", EdgesOfPromisesTest::bitsThatMay);
        CHECK.edge("-6 also if it MAY not be done", EdgesOfPromisesTest::thenMayNot);
    }

    private static void newAction() {
        PlanLandmarks x = new PlanLandmarks();
        for (int a = 0; a < 24; a++) {
            due("action", x.action(0, 0, 0, 1), a);
            due("action that can't be", x.action(0, 0, 0, 0), -6);
        }
        due("action, no room", x.action(0, 0, 0, 1), -7);
        due("status(0)", x.status(0), 24);
    }

    private static void newMacro() {
        PlanLandmarks x = new PlanLandmarks();
        due("macro(0, 0) of none", x.macro(0, 0), -1);
        x.action(0, 0, 0, 1);
        for (int a = 1; a < 24; a++) {
            due("macro(0, " + (a - 1) + ")", x.macro(0, a - 1), a);
            due("macro(0, " + (a + 1) + "), not there", x.macro(0, a + 1), -1);
        }
        due("macro(0, 0), no room", x.macro(0, 0), -7);
        due("COST of the last", x.actionOf(23, 4), 24);
        due("status(5)", x.status(5), 23);
    }

    private static void howManyItems() {
        PlanLandmarks x = new PlanLandmarks();
        StringBuilder text = new StringBuilder("now ");
        for (int n = 1; n <= 9; n++) {
            due("read of " + n, Check.readText(x, text.toString()), n);
            text.append(";now ");
        }
        x = new PlanLandmarks();
        due("read of each kind", Check.readText(x, "start ;act +-$1;goal ;act +-$1;now "), 5);
        x.row(0, 0, 0);
        due("read of a ROW of nothing", x.read(0), -6);
        due("fault()", x.fault(), 0);
    }

    private static void latestFault() {
        PlanLandmarks x = new PlanLandmarks();
        due("fault() of none yet", x.fault(), -1);
        x.read(-1);
        x.read(0);
        due("fault(), no ROW yet", x.fault(), -1);
        Check.readText(x, "now 1;");
        due("fault()", x.fault(), 6);
        x.action(0, 0, 0, 1);
        x.show(0, 0);
        due("read of an ACTION", x.read(0), -2);
        due("read of NOTHING", x.read(1), -3);
        due("read of no SHELF", x.read(8), -1);
        due("fault() still", x.fault(), 6);
        x.row(7, 0, 1);
        due("fault() behind row()", x.fault(), 6);
        Check.readText(x, "x");
        due("fault() of the latest", x.fault(), 0);
        Check.readText(x, "now 1");
        due("fault(), there was none", x.fault(), -1);
        due("REFUSALS -6", x.status(16), 2);
    }

    private static void whatItWas() {
        for (int what = 0; what < 3; what++) {
            PlanLandmarks x = new PlanLandmarks();
            int[] sets = {ALL, 0, 1 << 29, 1, 1, 0};
            int was = 0;
            for (int set : sets) {
                due("put(" + what + ", " + set + ")", x.put(what, set), was);
                for (int other = 0; other < 3; other++) {
                    due("status(" + (1 + other) + ")", x.status(1 + other), other == what ? set : 0);
                }
                was = set;
            }
        }
    }

    private static void firstAndSecond() {
        PlanLandmarks x = new PlanLandmarks();
        x.action(0, 0, 0, 1);
        x.action(0, 0, 0, 1);
        x.macro(1, 0);
        x.macro(2, 1);
        int[][] want = {{-1, -1}, {-1, -1}, {1, 0}, {2, 1}};
        for (int a = 0; a < 4; a++) {
            due("actionOf(" + a + ", 5)", x.actionOf(a, 5), want[a][0]);
            due("actionOf(" + a + ", 6)", x.actionOf(a, 6), want[a][1]);
        }
        due("REFUSALS -5", x.status(15), 0);
    }

    private static void noSuchAction() {
        PlanLandmarks x = new PlanLandmarks();
        due("actionOf(0, 0) of none", x.actionOf(0, 0), -5);
        x.action(0, 0, 0, 1);
        for (int what = 0; what < 7; what++) {
            due("actionOf(1, " + what + ")", x.actionOf(1, what), -5);
            due("actionOf(-1, " + what + ")", x.actionOf(-1, what), -5);
        }
        for (int what : new int[] {-1, 7, MAX, MIN}) {
            due("actionOf(0, " + what + ")", x.actionOf(0, what), -5);
        }
        due("REFUSALS -5", x.status(15), 19);
        due("REFUSALS -1", x.status(11), 0);
    }

    private static void bitsThatMay() {
        PlanLandmarks x = new PlanLandmarks();
        for (int a = 0; a < 24; a++) {
            due("may(0)", x.may(0), 0);
            due("may(ALL)", x.may(ALL), (1 << a) - 1);
            x.action(1 << a, 0, 0, 1);
            due("may of one FACT", x.may(1 << a), 1 << a);
        }
        due("may(ALL)", x.may(ALL), (1 << 24) - 1);
    }

    private static void thenMayNot() {
        PlanLandmarks x = new PlanLandmarks();
        x.action(6, 1, 0, 1);
        due("then(6, 0)", x.then(6, 0), 7);
        for (int state : new int[] {0, 1, 2, 4, 5, ALL & ~2, ALL & ~4}) {
            due("then(" + state + ", 0)", x.then(state, 0), -6);
        }
        due("then(0, 1)", x.then(0, 1), -1);
    }

    private static void relaxed() {
        CHECK.edge("LEVEL k (0 to 30) from a STATE", EdgesOfPromisesTest::levelsTo30);
        CHECK.edge("FIRST LEVEL of a FACT from a STATE; NONE", EdgesOfPromisesTest::firstOrNone);
        CHECK.edge("FIRST LEVEL of an ACTION from a STATE; NONE. -11; -16 (counted as -1, -6)",
            EdgesOfPromisesTest::firstOfOrNone);
        CHECK.edge("A GUESS (0 to 3); NONE. -11 which; -16 (counted as -1, -6)", EdgesOfPromisesTest::guessOrNone);
        CHECK.edge("RELAXED PLAN: ACTIONS (bits); 0 also if GUESS 3 is NONE", EdgesOfPromisesTest::noRelaxedPlan);
        CHECK.edge("HELPFUL: bits; 0 also if GUESS 3 is NONE", EdgesOfPromisesTest::noHelpfulOnes);
        CHECK.edge("LANDMARKS: bits", EdgesOfPromisesTest::landmarkBits);
        CHECK.edge("Whether one FACT is AHEAD of another (1, 0)", EdgesOfPromisesTest::aheadOrNot);
    }

    private static void levelsTo30() {
        PlanLandmarks x = new PlanLandmarks();
        x.action(1, 2, 0, 1);
        int[] ks = {0, 1, 2, 29, 30, 31, -1, MAX, MIN};
        int[] want = {1, 3, 3, 3, 3, -6, -6, -6, -6};
        for (int i = 0; i < ks.length; i++) {
            due("level(1, " + ks[i] + ")", x.level(1, ks[i]), want[i]);
        }
    }

    private static void firstOrNone() {
        PlanLandmarks x = new PlanLandmarks();
        x.action(1, 2, 0, 1);
        due("first(1, 0)", x.first(1, 0), 0);
        due("first(1, 1)", x.first(1, 1), 1);
        due("first(1, 2)", x.first(1, 2), -1);
        due("first(0, 1)", x.first(0, 1), -1);
        due("REFUSALS -1 without one", x.status(11), 0);
        due("first(1, 30)", x.first(1, 30), -11);
        due("first(-1, 0)", x.first(-1, 0), -16);
        due("REFUSALS -1", x.status(11), 1);
        due("REFUSALS -6", x.status(16), 1);
    }

    private static void firstOfOrNone() {
        PlanLandmarks x = new PlanLandmarks();
        x.action(1, 2, 0, 1);
        x.action(2, 0, 0, 1);
        due("firstOf(1, 0)", x.firstOf(1, 0), 0);
        due("firstOf(1, 1)", x.firstOf(1, 1), 1);
        due("firstOf(0, 0)", x.firstOf(0, 0), -1);
        due("REFUSALS -1 without one", x.status(11), 0);
        due("firstOf(1, 2)", x.firstOf(1, 2), -11);
        due("firstOf(-1, 0)", x.firstOf(-1, 0), -16);
        due("REFUSALS -1", x.status(11), 1);
        due("REFUSALS -6", x.status(16), 1);
    }

    private static void guessOrNone() {
        PlanLandmarks x = new PlanLandmarks();
        x.put(1, 1);
        int[] want = {-11, 1, -1, -1, -1, -11};
        for (int which = -1; which <= 4; which++) {
            due("guess(0, " + which + ")", x.guess(0, which), want[which + 1]);
        }
        due("guess(-1, 0)", x.guess(-1, 0), -16);
        due("REFUSALS -1", x.status(11), 2);
        due("REFUSALS -6", x.status(16), 1);
    }

    private static void noRelaxedPlan() {
        PlanLandmarks x = new PlanLandmarks();
        x.action(0, 1, 0, 1);
        x.put(1, 1);
        due("relaxed(0)", x.relaxed(0), 1);
        due("relaxed(1), none WANTED", x.relaxed(1), 0);
        x.put(1, 3);
        due("relaxed(0), GUESS 3 is NONE", x.relaxed(0), 0);
        due("relaxed(2)", x.relaxed(2), 1);
        due("REFUSALS -6", x.status(16), 0);
    }

    private static void noHelpfulOnes() {
        PlanLandmarks x = new PlanLandmarks();
        x.action(0, 1, 0, 1);
        x.put(1, 1);
        due("helpful(0)", x.helpful(0), 1);
        due("helpful(1), none WANTED", x.helpful(1), 0);
        x.put(1, 3);
        due("helpful(0), GUESS 3 is NONE", x.helpful(0), 0);
        due("helpful(2)", x.helpful(2), 1);
        due("REFUSALS -6", x.status(16), 0);
    }

    private static void landmarkBits() {
        PlanLandmarks x = new PlanLandmarks();
        x.action(0, 1 << 29, 0, 1);
        x.action(1 << 29, 1, 0, 1);
        x.put(1, 1);
        due("landmarks() of the highest and the lowest", x.landmarks(), 1 | 1 << 29);
        x.put(2, 1);
        due("landmarks(), whatever NOW is", x.landmarks(), 1 | 1 << 29);
        x.put(0, 1);
        due("landmarks() with GOAL in START", x.landmarks(), 1);
    }

    private static void aheadOrNot() {
        PlanLandmarks x = new PlanLandmarks();
        x.action(0, 1 << 29, 0, 1);
        x.action(1 << 29, 1, 0, 1);
        due("isAhead(29, 0)", x.isAhead(29, 0), 1);
        due("isAhead(0, 29)", x.isAhead(0, 29), 0);
        due("isAhead(29, 29)", x.isAhead(29, 29), 0);
        due("isAhead(5, 0)", x.isAhead(5, 0), 0);
        x.put(0, 1);
        due("isAhead(29, 0), in START", x.isAhead(29, 0), 0);
    }

    private static void states() {
        CHECK.edge("How many STATES are REACHED; 0: TOO MANY", EdgesOfPromisesTest::howManyReached);
        CHECK.edge("The i-th REACHED STATE. -5 no such one, TOO MANY", EdgesOfPromisesTest::noSuchState);
        CHECK.edge("FAR of the i-th. -5", EdgesOfPromisesTest::noSuchFar);
        CHECK.edge("Which REACHED one a STATE is; NONE; -15: TOO MANY (counted as -5). -16 (counted as -6)",
            EdgesOfPromisesTest::whichReached);
        CHECK.edge("EXCLUDED: bits. -1; -5 TOO MANY", EdgesOfPromisesTest::excludedOrTooMany);
        CHECK.edge("BEST PLAN: COSTS together (what 0), how many ACTIONS (1); NONE: there is none. "
            + "-15 another what, TOO MANY (counted as -5)", EdgesOfPromisesTest::bestOrNone);
        CHECK.edge("The i-th ACTION of BEST PLAN; NONE: no such. -15 TOO MANY (counted as -5)",
            EdgesOfPromisesTest::bestAtOrNone);
        CHECK.edge("BEST PLAN is put into the ROW in SHELF s, from element 0 on: how many ACTIONS",
            EdgesOfPromisesTest::putIntoTheRow);
        CHECK.edge("-5 there is none, TOO MANY; -7 the ROW is too short", EdgesOfPromisesTest::noneOrTooShort);
    }

    /** FACT 0, then 1, by an ACTION each; with nine more that stand alone there are TOO MANY STATES. */
    private static PlanLandmarks two() {
        PlanLandmarks x = new PlanLandmarks();
        x.action(1, 2, 1, 3);
        x.action(2, 4, 2, 4);
        x.put(0, 1);
        x.put(1, 4);
        return x;
    }

    private static void crowd(PlanLandmarks x) {
        x.image();
        for (int fact = 20; fact < 29; fact++) {
            x.action(0, 1 << fact, 0, 1);
        }
    }

    private static void howManyReached() {
        PlanLandmarks x = two();
        due("reached()", x.reached(), 3);
        crowd(x);
        due("reached() of TOO MANY", x.reached(), 0);
        x.restore();
        due("reached() again", x.reached(), 3);
        x.put(0, 0);
        due("reached() from nothing", x.reached(), 1);
        due("REFUSALS -5", x.status(15), 0);
    }

    private static void noSuchState() {
        PlanLandmarks x = two();
        due("state(0)", x.state(0), 1);
        due("state(2)", x.state(2), 4);
        for (int i : new int[] {-1, 3, MAX, MIN}) {
            due("state(" + i + ")", x.state(i), -5);
        }
        crowd(x);
        due("state(0) of TOO MANY", x.state(0), -5);
        due("state(299) of TOO MANY", x.state(299), -5);
        due("REFUSALS -5", x.status(15), 6);
    }

    private static void noSuchFar() {
        PlanLandmarks x = two();
        due("far(0)", x.far(0), 0);
        due("far(2)", x.far(2), 7);
        for (int i : new int[] {-1, 3, MAX, MIN}) {
            due("far(" + i + ")", x.far(i), -5);
        }
        crowd(x);
        due("far(0) of TOO MANY", x.far(0), -5);
        due("REFUSALS -5", x.status(15), 5);
    }

    private static void whichReached() {
        PlanLandmarks x = two();
        int[] states = {1, 2, 4, 0, 3, 7, ALL};
        int[] want = {0, 1, 2, -1, -1, -1, -1};
        for (int i = 0; i < states.length; i++) {
            due("numberOf(" + states[i] + ")", x.numberOf(states[i]), want[i]);
        }
        due("REFUSALS -1", x.status(11), 0);
        due("numberOf(-1)", x.numberOf(-1), -16);
        due("REFUSALS -6", x.status(16), 1);
        crowd(x);
        due("numberOf(1) of TOO MANY", x.numberOf(1), -15);
        due("numberOf(-1) of TOO MANY", x.numberOf(-1), -15);
        due("REFUSALS -5", x.status(15), 2);
        due("REFUSALS -6", x.status(16), 1);
    }

    private static void excludedOrTooMany() {
        PlanLandmarks x = two();
        due("excluded(0)", x.excluded(0), ALL & ~1);
        due("excluded(29)", x.excluded(29), ALL);
        due("excluded(30)", x.excluded(30), -1);
        crowd(x);
        due("excluded(0) of TOO MANY", x.excluded(0), -5);
        due("excluded(30) of TOO MANY", x.excluded(30), -1);
        due("REFUSALS -1", x.status(11), 2);
        due("REFUSALS -5", x.status(15), 1);
    }

    private static void bestOrNone() {
        PlanLandmarks x = two();
        due("best(0)", x.best(0), 7);
        due("best(1)", x.best(1), 2);
        for (int what : new int[] {-1, 2, MAX, MIN}) {
            due("best(" + what + ")", x.best(what), -15);
        }
        x.put(1, 1);
        due("best(0), GOAL in START", x.best(0), 0);
        due("best(1), GOAL in START", x.best(1), 0);
        x.put(1, 3);
        due("best(0), there is none", x.best(0), -1);
        due("best(1), there is none", x.best(1), -1);
        due("best(2), there is none", x.best(2), -15);
        due("REFUSALS -1", x.status(11), 0);
        crowd(x);
        due("best(0) of TOO MANY", x.best(0), -15);
        due("best(2) of TOO MANY", x.best(2), -15);
        due("REFUSALS -5", x.status(15), 7);
    }

    private static void bestAtOrNone() {
        PlanLandmarks x = two();
        int[] is = {0, 1, 2, -1, MAX, MIN};
        int[] want = {0, 1, -1, -1, -1, -1};
        for (int i = 0; i < is.length; i++) {
            due("bestAt(" + is[i] + ")", x.bestAt(is[i]), want[i]);
        }
        x.put(1, 1);
        due("bestAt(0), GOAL in START", x.bestAt(0), -1);
        x.put(1, 3);
        due("bestAt(0), there is none", x.bestAt(0), -1);
        due("REFUSALS -1", x.status(11), 0);
        crowd(x);
        due("bestAt(0) of TOO MANY", x.bestAt(0), -15);
        due("bestAt(-1) of TOO MANY", x.bestAt(-1), -15);
        due("REFUSALS -5", x.status(15), 2);
    }

    private static void putIntoTheRow() {
        PlanLandmarks x = two();
        for (int sort = 0; sort < 4; sort++) {
            x.row(sort, sort, 4);
            for (int i = 0; i < 4; i++) {
                x.set(sort, i, 99);
            }
            due("spell(" + sort + ")", x.spell(sort), 2);
            int[] want = {0, 1, 99, 99};
            for (int i = 0; i < 4; i++) {
                due("element(" + sort + ", " + i + ")", x.element(sort, i), want[i]);
            }
            due("judge(" + sort + ", 2)", x.judge(sort, 2), -1);
        }
        x.put(1, 1);
        due("spell(0) of no ACTIONS", x.spell(0), 0);
        due("element(0, 1)", x.element(0, 1), 1);
    }

    private static void noneOrTooShort() {
        PlanLandmarks x = two();
        int[] want = {-7, -7, 2, 2};
        for (int n = 0; n < 4; n++) {
            x.row(0, 1, n);
            due("spell into " + n, x.spell(0), want[n]);
        }
        x.row(0, 1, 1);
        x.spell(0);
        due("element(0, 0) of the too short", x.element(0, 0), 0);
        x.put(1, 3);
        due("spell, there is none", x.spell(0), -5);
        x.put(1, 1);
        x.row(0, 0, 0);
        due("spell of no ACTIONS into no elements", x.spell(0), 0);
        crowd(x);
        due("spell of TOO MANY", x.spell(0), -5);
        due("REFUSALS -5", x.status(15), 2);
        due("REFUSALS -7", x.status(17), 3);
    }

    private static void toldPlans() {
        CHECK.edge("WRONG of a told PLAN by the first n elements (0 to 100) of the ROW in SHELF s; NONE",
            EdgesOfPromisesTest::judgedTo100);
        CHECK.edge("-14 n; -15 fewer elements; -16 n above 100 (counted as -1 to -6)",
            EdgesOfPromisesTest::judgedBelowAndAbove);
        CHECK.edge("the STATE (what 0), COSTS together (1), whether it has GOAL (2; 1, 0), which FACTS of GOAL it lacks (3)",
            EdgesOfPromisesTest::behindTold);
        CHECK.edge("-5 also another what; -6 also if it is WRONG", EdgesOfPromisesTest::behindWrong);
        CHECK.edge("MOST PAIR: 100 times the first, and the second", EdgesOfPromisesTest::pairs);
        CHECK.edge("-5 also fewer than two; -6 n above 100, a number that is no ACTION", EdgesOfPromisesTest::noPairs);
    }

    private static PlanLandmarks turning() {
        PlanLandmarks x = new PlanLandmarks();
        x.action(1, 2, 1, 99);
        x.action(2, 1, 2, 1);
        x.put(0, 1);
        x.put(1, 2 | 4);
        x.row(0, 0, 160);
        for (int i = 1; i < 160; i += 2) {
            x.set(0, i, 1);
        }
        return x;
    }

    private static void judgedTo100() {
        PlanLandmarks x = turning();
        for (int n = 0; n <= 100; n++) {
            due("judge(0, " + n + ")", x.judge(0, n), -1);
        }
        x.set(0, 99, 0);
        due("judge(0, 99)", x.judge(0, 99), -1);
        due("judge(0, 100)", x.judge(0, 100), 99);
        x.set(0, 0, 2);
        due("judge(0, 100), the first", x.judge(0, 100), 0);
        due("judge(0, 1)", x.judge(0, 1), 0);
        due("judge(0, 0)", x.judge(0, 0), -1);
        due("REFUSALS -1", x.status(11), 0);
    }

    private static void judgedBelowAndAbove() {
        PlanLandmarks x = turning();
        x.row(1, 0, 1);
        due("judge(1, 1)", x.judge(1, 1), -1);
        due("judge(1, 2)", x.judge(1, 2), -15);
        due("judge(1, 101)", x.judge(1, 101), -15);
        due("judge(1, -1)", x.judge(1, -1), -14);
        due("judge(0, 100)", x.judge(0, 100), -1);
        due("judge(0, 101)", x.judge(0, 101), -16);
        due("judge(0, 160)", x.judge(0, 160), -16);
        due("judge(0, 161)", x.judge(0, 161), -15);
        due("judge(0, MIN)", x.judge(0, MIN), -14);
        x.row(2, 0, 0);
        due("judge(2, 0)", x.judge(2, 0), -1);
        due("judge(2, 1)", x.judge(2, 1), -15);
        due("REFUSALS -4", x.status(14), 2);
        due("REFUSALS -5", x.status(15), 4);
        due("REFUSALS -6", x.status(16), 2);
    }

    private static void behindTold() {
        PlanLandmarks x = turning();
        int[][] want = {{1, 0, 0, 6}, {2, 99, 0, 4}, {1, 100, 0, 6}};
        for (int n = 0; n < 3; n++) {
            for (int what = 0; what < 4; what++) {
                due("behind(0, " + n + ", " + what + ")", x.behind(0, n, what), want[n][what]);
            }
        }
        due("behind(0, 100, 1)", x.behind(0, 100, 1), 5000);
        due("behind(0, 99, 1)", x.behind(0, 99, 1), 4999);
        x.put(1, 2);
        due("behind(0, 1, 2) with GOAL", x.behind(0, 1, 2), 1);
        due("behind(0, 1, 3) with GOAL", x.behind(0, 1, 3), 0);
        x.put(1, 0);
        due("behind(0, 0, 2) of no GOAL", x.behind(0, 0, 2), 1);
        due("behind(0, 0, 3) of no GOAL", x.behind(0, 0, 3), 0);
        x.put(1, ALL);
        due("behind(0, 0, 3) of all", x.behind(0, 0, 3), ALL & ~1);
        due("START", x.status(1), 1);
    }

    private static void behindWrong() {
        PlanLandmarks x = turning();
        for (int what = 0; what < 4; what++) {
            due("behind(0, 101, " + what + ") of what is right", x.behind(0, 101, what), -6);
        }
        x.set(0, 2, 1);
        for (int what = 0; what < 4; what++) {
            due("behind(0, 3, " + what + ") of WRONG", x.behind(0, 3, what), -6);
            due("behind(0, 2, " + what + ") or a refusal", Math.min(x.behind(0, 2, what), 0), 0);
        }
        for (int what : new int[] {-1, 4, MAX, MIN}) {
            due("behind(0, 2, " + what + ")", x.behind(0, 2, what), -5);
            due("behind(0, 3, " + what + ") of WRONG", x.behind(0, 3, what), -5);
            due("behind(0, 101, " + what + ")", x.behind(0, 101, what), -5);
        }
        due("behind(0, 101, 0)", x.behind(0, 101, 0), -6);
        x.set(0, 0, 2);
        due("behind(0, 1, 0) of no ACTION", x.behind(0, 1, 0), -6);
        due("behind(0, 0, 0)", x.behind(0, 0, 0), 1);
    }

    private static void pairs() {
        PlanLandmarks x = turning();
        due("mostPair(0, 2)", x.mostPair(0, 2), 1);
        due("mostPair(0, 3), one each", x.mostPair(0, 3), 1);
        x.set(0, 0, 1);
        due("mostPair(0, 2)", x.mostPair(0, 2), 101);
        due("mostPair(0, 3)", x.mostPair(0, 3), 100);
        due("mostPair(0, 100)", x.mostPair(0, 100), 1);
    }

    private static void noPairs() {
        PlanLandmarks x = turning();
        due("mostPair(0, 0)", x.mostPair(0, 0), -5);
        due("mostPair(0, 1)", x.mostPair(0, 1), -5);
        due("mostPair(0, 2)", x.mostPair(0, 2), 1);
        due("mostPair(0, 100)", x.mostPair(0, 100), 1);
        due("mostPair(0, 101)", x.mostPair(0, 101), -6);
        due("mostPair(0, 161)", x.mostPair(0, 161), -5);
        x.set(0, 1, 2);
        due("mostPair(0, 2), the second no ACTION", x.mostPair(0, 2), -6);
        x.set(0, 1, -1);
        due("mostPair(0, 2), the second -1", x.mostPair(0, 2), -6);
        x.set(0, 1, 1);
        x.set(0, 99, 2);
        due("mostPair(0, 100), the last no ACTION", x.mostPair(0, 100), -6);
        due("mostPair(0, 99)", x.mostPair(0, 99), 1);
        x.set(0, 0, 24);
        due("mostPair(0, 2), the first no ACTION", x.mostPair(0, 2), -6);
        due("mostPair(0, 1), the first no ACTION", x.mostPair(0, 1), -5);
    }

    private static void steps() {
        CHECK.edge("GREEDY, n (1 to 40): how many ACTIONS were done", EdgesOfPromisesTest::greedyTo40);
        CHECK.edge("WALK by draws, n (1 to 40): how many ACTIONS were done", EdgesOfPromisesTest::walkTo40);
        CHECK.edge("SEED becomes v: what it was (nothing is refused)", EdgesOfPromisesTest::seeds);
        CHECK.edge("The i-th ACTION done by the latest greedy() or walk(), of the first 40. NONE: none such",
            EdgesOfPromisesTest::traces);
    }

    private static PlanLandmarks endless() {
        PlanLandmarks x = new PlanLandmarks();
        x.action(0, 1, 0, 1);
        x.action(1 << 29, 1, 0, 1);
        x.put(1, 2);
        return x;
    }

    private static void greedyTo40() {
        PlanLandmarks x = endless();
        int[] ns = {1, 2, 39, 40, 0, -1, 41, MAX, MIN};
        int[] want = {1, 2, 39, 40, -6, -6, -6, -6, -6};
        for (int i = 0; i < ns.length; i++) {
            due("greedy(0, " + ns[i] + ")", x.greedy(0, ns[i]), want[i]);
        }
        due("status(6)", x.status(6), 40);
        due("REFUSALS -6", x.status(16), 5);
    }

    private static void walkTo40() {
        PlanLandmarks x = endless();
        int[] ns = {1, 2, 39, 40, 0, -1, 41, MAX, MIN};
        int[] want = {1, 2, 39, 40, -6, -6, -6, -6, -6};
        for (int i = 0; i < ns.length; i++) {
            due("walk(" + ns[i] + ")", x.walk(ns[i]), want[i]);
        }
        due("status(6)", x.status(6), 40);
        due("REFUSALS -6", x.status(16), 5);
    }

    private static void seeds() {
        PlanLandmarks x = new PlanLandmarks();
        int was = 1;
        for (int v : new int[] {0, -1, MAX, MIN, 1, 1}) {
            due("seed(" + v + ")", x.seed(v), was);
            due("status(4)", x.status(4), v);
            was = v;
        }
        for (int what = 11; what <= 17; what++) {
            due("status(" + what + ")", x.status(what), 0);
        }
    }

    private static void traces() {
        PlanLandmarks x = endless();
        due("trace(0) of none yet", x.trace(0), -1);
        x.walk(40);
        due("trace(0)", x.trace(0), 0);
        due("trace(39)", x.trace(39), 0);
        due("trace(40)", x.trace(40), -1);
        x.put(2, 1 << 29);
        x.put(1, 1 << 29 | 1);
        due("greedy(0, 40)", x.greedy(0, 40), 1);
        due("trace(0) of the latest", x.trace(0), 0);
        due("trace(1) of the latest", x.trace(1), -1);
        x.greedy(0, 0);
        x.greedy(4, 1);
        x.walk(41);
        due("trace(0) behind refused ones", x.trace(0), 0);
        due("greedy(0, 1) that does nothing", x.greedy(0, 1), 0);
        for (int i : new int[] {0, -1, 39, 40, MAX, MIN}) {
            due("trace(" + i + ") of nothing", x.trace(i), -1);
        }
    }

    private static void imageAndStatus() {
        CHECK.edge("THE IMAGE of all but SHELVES (and THE IMAGE, REFUSALS, the FAULT, what trace() tells) is taken: "
            + "how many ACTIONS", EdgesOfPromisesTest::imageOfAllBut);
        CHECK.edge("All is as THE IMAGE has it; SHELVES with ACTIONS hold those of these numbers, or NOTHING: how many ACTIONS",
            EdgesOfPromisesTest::asTheImageHasIt);
        CHECK.edge("how many ACTIONS. -6 there is none", EdgesOfPromisesTest::noImage);
        CHECK.edge("11 to 17: REFUSALS -1 to -7. NONE for another what", EdgesOfPromisesTest::counts);
        CHECK.edge("5 MACROS (DEEP too), 6 what trace() tells of", EdgesOfPromisesTest::macrosAndTrace);
    }

    private static void imageOfAllBut() {
        PlanLandmarks x = new PlanLandmarks();
        due("image() of nothing", x.image(), 0);
        x.action(0, 1, 0, 1);
        x.row(0, 2, 2);
        x.set(0, 0, 5);
        Check.readText(x, "now x");
        x.walk(3);
        due("image()", x.image(), 1);
        x.set(0, 0, 6);
        x.row(1, 0, 1);
        Check.readText(x, "now xy;");
        Check.readText(x, "now 1,");
        x.walk(2);
        x.row(0, 2, -1);
        int refused = x.status(16);
        due("restore()", x.restore(), 1);
        due("element(0, 0), a SHELF's", x.element(0, 0), 6);
        due("holds(1), a SHELF's", x.holds(1), 100);
        due("fault()", x.fault(), 6);
        due("status(6)", x.status(6), 2);
        due("REFUSALS -6", x.status(16), refused);
        due("REFUSALS -4", x.status(14), 1);
        due("restore() once more: THE IMAGE stays", x.restore(), 1);
    }

    private static void asTheImageHasIt() {
        PlanLandmarks x = new PlanLandmarks();
        x.action(1, 2, 4, 8);
        x.put(0, 1);
        x.put(1, 2);
        x.put(2, 3);
        x.seed(4);
        due("image()", x.image(), 1);
        x.macro(0, 0);
        x.action(16, 32, 64, 9);
        x.put(0, 5);
        x.put(1, 6);
        x.put(2, 7);
        x.seed(8);
        x.show(0, 0);
        x.show(1, 1);
        x.show(7, 2);
        x.row(2, 3, 1);
        due("restore()", x.restore(), 1);
        int[] want = {1, 1, 2, 3, 4, 0};
        for (int what = 0; what < want.length; what++) {
            due("status(" + what + ")", x.status(what), want[what]);
        }
        int[] held = {0, -1, 103, -1, -1, -1, -1, -1};
        for (int s = 0; s < 8; s++) {
            due("holds(" + s + ")", x.holds(s), held[s]);
        }
        due("says(0, 0)", x.says(0, 0), 8);
        due("says(1, 0)", x.says(1, 0), -3);
        due("actionOf(1, 0)", x.actionOf(1, 0), -5);
        // The next ACTION has the number that is free again; the SHELF that had it holds NOTHING still.
        due("action", x.action(0, 0, 0, 5), 1);
        due("KIND of it", x.actionOf(1, 0), 0);
        due("holds(1)", x.holds(1), -1);
        // A SHELF that shows it goes on showing what has that number then.
        x.show(1, 1);
        due("image() of two", x.image(), 2);
        due("restore() of two", x.restore(), 2);
        due("holds(1)", x.holds(1), 1);
        due("says(1, 0)", x.says(1, 0), 5);
    }

    private static void noImage() {
        PlanLandmarks x = new PlanLandmarks();
        x.action(0, 0, 0, 1);
        due("restore() of none", x.restore(), -6);
        due("status(0)", x.status(0), 1);
        due("REFUSALS -6", x.status(16), 1);
        due("image()", x.image(), 1);
        due("restore()", x.restore(), 1);
        due("restore() again", x.restore(), 1);
    }

    private static void counts() {
        PlanLandmarks x = new PlanLandmarks();
        for (int n = 0; n < 3; n++) {
            x.show(8, 0);
            x.row(0, 9, -1);
        }
        for (int n = 0; n < 5; n++) {
            x.set(1, 0, 0);
            x.judge(0, 0);
        }
        x.row(0, 0, 161);
        x.row(0, 4, 0);
        x.row(0, 4, 0);
        x.actionOf(0, 0);
        x.first(-1, 0);
        x.first(0, -1);
        x.says(0, 0);
        int[] want = {-1, 4, 0, 11, 3, 1, 3, 1, -1};
        for (int i = 0; i < want.length; i++) {
            due("status(" + (10 + i) + ")", x.status(10 + i), want[i]);
        }
        for (int what : new int[] {-1, 7, 8, 9, -11, MAX, MIN}) {
            due("status(" + what + ")", x.status(what), -1);
        }
    }

    private static void macrosAndTrace() {
        PlanLandmarks x = endless();
        due("status(5) of none", x.status(5), 0);
        due("status(6) of none", x.status(6), 0);
        x.macro(0, 0);
        x.macro(2, 0);
        x.macro(3, 3);
        due("status(5)", x.status(5), 3);
        due("status(0)", x.status(0), 5);
        x.walk(7);
        due("status(6)", x.status(6), 7);
        x.walk(40);
        due("status(6)", x.status(6), 40);
        x.put(1, 0);
        x.greedy(0, 4);
        due("status(6) of nothing done", x.status(6), 0);
    }
}
