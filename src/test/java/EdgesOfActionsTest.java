/** Terms, FACTS AND ACTIONS: each sentence that names an edge has a test of its own. */
public final class EdgesOfActionsTest {
    private static final Check CHECK = new Check("EdgesOfActionsTest");
    private static final int ALL = (1 << 30) - 1;

    private static void due(String call, long got, long want) {
        CHECK.due(call, got, want);
    }

    public static void main(String[] args) {
        factsAndSets();
        kinds();
        macros();
        texts();
        faults();
        CHECK.end();
    }

    private static void factsAndSets() {
        CHECK.edge("FACTS 0 to 29", EdgesOfActionsTest::facts);
        CHECK.edge("a STATE is a set of them (bits)", EdgesOfActionsTest::states);
        CHECK.edge("START and GOAL are sets (none at first), NOW is a STATE (none at first)",
            EdgesOfActionsTest::noneAtFirst);
        CHECK.edge("ACTIONS have numbers, from 0 on, 24 at most", EdgesOfActionsTest::numbersOfActions);
        CHECK.edge("NEEDS, MAKES, UNDOES (sets)", EdgesOfActionsTest::setsOfActions);
        CHECK.edge("COST (1 to 99)", EdgesOfActionsTest::costs);
        CHECK.edge("An ACTION MAY be done in a STATE that has all its NEEDS", EdgesOfActionsTest::allItsNeeds);
        CHECK.edge("then the STATE loses what it UNDOES and gets what it MAKES", EdgesOfActionsTest::losesAndGets);
        CHECK.edge("(what is in both is so)", EdgesOfActionsTest::whatIsInBoth);
    }

    private static void facts() {
        PlanLandmarks x = new PlanLandmarks();
        due("first(1, 0)", x.first(1, 0), 0);
        due("first(1 << 29, 29)", x.first(1 << 29, 29), 0);
        due("first(0, -1)", x.first(0, -1), -11);
        due("first(0, 30)", x.first(0, 30), -11);
        due("first(0, 31)", x.first(0, 31), -11);
        due("excluded(0)", x.excluded(0), ALL);
        due("excluded(29)", x.excluded(29), ALL);
        due("excluded(-1)", x.excluded(-1), -1);
        due("excluded(30)", x.excluded(30), -1);
        due("excluded(32)", x.excluded(32), -1);
        due("isAhead(0, 29)", x.isAhead(0, 29), 1);
        due("isAhead(29, 0)", x.isAhead(29, 0), 1);
        due("isAhead(30, 0)", x.isAhead(30, 0), -1);
        due("isAhead(0, 30)", x.isAhead(0, 30), -1);
        due("isAhead(0, -1)", x.isAhead(0, -1), -1);
        due("isAhead(-1, 0)", x.isAhead(-1, 0), -1);
    }

    private static void states() {
        PlanLandmarks x = new PlanLandmarks();
        x.action(0, 0, 0, 1);
        for (int state : new int[] {0, 1, 1 << 29, ALL}) {
            due("may(" + state + ")", x.may(state), 1);
            due("then(" + state + ", 0)", x.then(state, 0), state);
            due("level(" + state + ", 0)", x.level(state, 0), state);
            due("guess(" + state + ", 0)", x.guess(state, 0), 0);
            due("relaxed(" + state + ")", x.relaxed(state), 0);
            due("numberOf(" + state + ")", x.numberOf(state), state == 0 ? 0 : -1);
        }
        for (int state : new int[] {-1, 1 << 30, (1 << 30) + 1, Integer.MAX_VALUE, Integer.MIN_VALUE}) {
            due("may(" + state + ")", x.may(state), -6);
            due("then(" + state + ", 0)", x.then(state, 0), -6);
            due("level(" + state + ", 0)", x.level(state, 0), -6);
            due("first(" + state + ", 0)", x.first(state, 0), -16);
            due("firstOf(" + state + ", 0)", x.firstOf(state, 0), -16);
            due("guess(" + state + ", 0)", x.guess(state, 0), -16);
            due("relaxed(" + state + ")", x.relaxed(state), -6);
            due("helpful(" + state + ")", x.helpful(state), -6);
            due("numberOf(" + state + ")", x.numberOf(state), -16);
        }
    }

    private static void noneAtFirst() {
        PlanLandmarks x = new PlanLandmarks();
        for (int what = 0; what < 3; what++) {
            due("status(" + (1 + what) + ")", x.status(1 + what), 0);
            due("put(" + what + ", 5)", x.put(what, 5), 0);
        }
    }

    private static void numbersOfActions() {
        PlanLandmarks x = new PlanLandmarks();
        due("may(ALL) of none", x.may(ALL), 0);
        for (int a = 0; a < 22; a++) {
            due("action number " + a, x.action(0, 0, 0, 1), a);
        }
        due("macro number 22", x.macro(0, 21), 22);
        due("status(0)", x.status(0), 23);
        due("read number 23", Check.readText(x, "act 3+-$5"), 1);
        due("actionOf(23, 4)", x.actionOf(23, 4), 5);
        due("actionOf(24, 4)", x.actionOf(24, 4), -5);
        due("action number 24", x.action(0, 0, 0, 1), -7);
        due("macro number 24", x.macro(0, 1), -7);
        due("read number 24", Check.readText(x, "act +-$5"), -6);
        due("status(0)", x.status(0), 24);
        due("may(0)", x.may(0), (1 << 23) - 1);
        due("may(8)", x.may(8), (1 << 24) - 1);
    }

    private static void setsOfActions() {
        PlanLandmarks x = new PlanLandmarks();
        int[] bad = {-1, 1 << 30, Integer.MAX_VALUE, Integer.MIN_VALUE};
        for (int set : bad) {
            due("action(" + set + ", 0, 0, 1)", x.action(set, 0, 0, 1), -6);
            due("action(0, " + set + ", 0, 1)", x.action(0, set, 0, 1), -6);
            due("action(0, 0, " + set + ", 1)", x.action(0, 0, set, 1), -6);
        }
        due("status(0)", x.status(0), 0);
        due("action of none at all", x.action(0, 0, 0, 1), 0);
        due("action of all", x.action(ALL, ALL, ALL, 1), 1);
        for (int what = 1; what <= 3; what++) {
            due("actionOf(0, " + what + ")", x.actionOf(0, what), 0);
            due("actionOf(1, " + what + ")", x.actionOf(1, what), ALL);
        }
    }

    private static void costs() {
        PlanLandmarks x = new PlanLandmarks();
        for (int cost : new int[] {0, -1, 100, Integer.MAX_VALUE, Integer.MIN_VALUE}) {
            due("action of COST " + cost, x.action(0, 0, 0, cost), -6);
        }
        due("action of COST 1", x.action(0, 0, 0, 1), 0);
        due("action of COST 99", x.action(0, 0, 0, 99), 1);
        due("actionOf(0, 4)", x.actionOf(0, 4), 1);
        due("actionOf(1, 4)", x.actionOf(1, 4), 99);
    }

    private static void allItsNeeds() {
        PlanLandmarks x = new PlanLandmarks();
        x.action(0, 1, 0, 1);
        x.action(ALL, 1, 0, 1);
        x.action(1 | 1 << 29, 1, 0, 1);
        due("may(0)", x.may(0), 1);
        due("may(ALL)", x.may(ALL), 7);
        due("may(1)", x.may(1), 1);
        due("may(1 << 29)", x.may(1 << 29), 1);
        due("may(1 | 1 << 29)", x.may(1 | 1 << 29), 5);
        for (int fact = 0; fact < 30; fact++) {
            due("then of all but " + fact, x.then(ALL & ~(1 << fact), 1), -6);
        }
        due("then(ALL, 1)", x.then(ALL, 1), ALL);
    }

    private static void losesAndGets() {
        PlanLandmarks x = new PlanLandmarks();
        x.action(1, 2, 4, 1);
        // It keeps what it NEEDS but doesn't UNDO; what it UNDOES need not be there, what it MAKES may be.
        due("then(1, 0)", x.then(1, 0), 3);
        due("then(7, 0)", x.then(7, 0), 3);
        due("then(ALL, 0)", x.then(ALL, 0), ALL & ~4);
        x.action(0, 0, ALL, 1);
        due("then(ALL, 1)", x.then(ALL, 1), 0);
        due("then(0, 1)", x.then(0, 1), 0);
        x.action(0, ALL, 0, 1);
        due("then(0, 2)", x.then(0, 2), ALL);
    }

    private static void whatIsInBoth() {
        PlanLandmarks x = new PlanLandmarks();
        x.action(0, 6, 3, 1);
        due("then(0, 0)", x.then(0, 0), 6);
        due("then(1, 0)", x.then(1, 0), 6);
        due("then(3, 0)", x.then(3, 0), 6);
        x.action(0, ALL, ALL, 1);
        due("then(5, 1)", x.then(5, 1), ALL);
        x.put(0, 1);
        due("state(1) of REACHED", x.state(1), 6);
    }

    private static void kinds() {
        CHECK.edge("0 ACTION; 1 MACRO, under ACTION, of two others (both may be the same one)",
            EdgesOfActionsTest::macroOfOneTwice);
        CHECK.edge("2 DEEP, under MACRO, of which one at least is a MACRO", EdgesOfActionsTest::deepOnes);
    }

    private static void macroOfOneTwice() {
        PlanLandmarks x = new PlanLandmarks();
        x.action(1, 1, 0, 7);
        x.action(1, 1, 0, 8);
        due("macro(0, 0)", x.macro(0, 0), 2);
        due("macro(1, 0)", x.macro(1, 0), 3);
        int[][] want = {{0, -1, -1}, {0, -1, -1}, {1, 0, 0}, {1, 1, 0}};
        for (int a = 0; a < 4; a++) {
            due("KIND of " + a, x.actionOf(a, 0), want[a][0]);
            due("first of " + a, x.actionOf(a, 5), want[a][1]);
            due("second of " + a, x.actionOf(a, 6), want[a][2]);
        }
    }

    private static void deepOnes() {
        PlanLandmarks x = new PlanLandmarks();
        x.action(0, 1, 0, 1);
        x.action(0, 2, 0, 1);
        due("macro of two plain ones", x.macro(0, 1), 2);
        due("macro, the first a MACRO", x.macro(2, 0), 3);
        due("macro, the second a MACRO", x.macro(0, 2), 4);
        due("macro of a MACRO twice", x.macro(2, 2), 5);
        due("macro, the first a DEEP", x.macro(3, 0), 6);
        due("macro, the second a DEEP", x.macro(1, 4), 7);
        due("macro of two plain ones again", x.macro(1, 1), 8);
        int[] kinds = {0, 0, 1, 2, 2, 2, 2, 2, 1};
        for (int a = 0; a < kinds.length; a++) {
            due("KIND of " + a, x.actionOf(a, 0), kinds[a]);
        }
        due("status(5)", x.status(5), 7);
    }

    private static void macros() {
        CHECK.edge("it can't be, if a UNDOES and doesn't MAKE something that b NEEDS",
            EdgesOfActionsTest::macroOfUndone);
        CHECK.edge("or the COSTS together are above 99", EdgesOfActionsTest::macroOfCosts);
        CHECK.edge("NEEDS those of a, and those of b that a doesn't MAKE", EdgesOfActionsTest::macroNeeds);
        CHECK.edge("MAKES those of a that b doesn't UNDO, and those of b", EdgesOfActionsTest::macroMakes);
        CHECK.edge("UNDOES those of a that b doesn't MAKE, and those of b", EdgesOfActionsTest::macroUndoes);
        CHECK.edge("COST both together", EdgesOfActionsTest::macroCost);
    }

    private static void macroOfUndone() {
        PlanLandmarks x = new PlanLandmarks();
        x.action(0, 2, 3, 1);
        x.action(1, 0, 0, 1);
        x.action(2, 0, 0, 1);
        x.action(4, 0, 0, 1);
        x.action(1 | 2 | 4, 0, 0, 1);
        x.action(0, 0, 0, 1);
        due("b NEEDS what a UNDOES", x.macro(0, 1), -6);
        due("one of several that b NEEDS", x.macro(0, 4), -6);
        due("b NEEDS what a UNDOES and MAKES", x.macro(0, 2), 6);
        due("b NEEDS what a leaves alone", x.macro(0, 3), 7);
        due("b NEEDS nothing", x.macro(0, 5), 8);
        due("the other way about", x.macro(1, 0), 9);
        due("status(16)", x.status(16), 2);
    }

    private static void macroOfCosts() {
        PlanLandmarks x = new PlanLandmarks();
        x.action(0, 0, 0, 99);
        x.action(0, 0, 0, 1);
        x.action(0, 0, 0, 50);
        x.action(0, 0, 0, 49);
        due("99 and 1", x.macro(0, 1), -6);
        due("1 and 99", x.macro(1, 0), -6);
        due("50 and 50", x.macro(2, 2), -6);
        due("99 and 99", x.macro(0, 0), -6);
        due("50 and 49", x.macro(2, 3), 4);
        due("COST of 50 and 49", x.actionOf(4, 4), 99);
        due("99 of a MACRO, and 1", x.macro(4, 1), -6);
        due("49 and 49", x.macro(3, 3), 5);
        due("98 and 1", x.macro(5, 1), 6);
        due("COST of 98 and 1", x.actionOf(6, 4), 99);
    }

    /** 0x0F, 0x33 and 0x55: FACTS 0 to 7 are in three such sets in all eight ways. */
    private static void macroNeeds() {
        PlanLandmarks x = new PlanLandmarks();
        x.action(0x0F, 0x33, 0, 1);
        x.action(0x55, 0, 0, 1);
        x.macro(0, 1);
        due("NEEDS", x.actionOf(2, 1), 0x0F | 0x44);
        // What a MAKES it may still NEED itself.
        x.action(0, ALL, 0, 1);
        x.action(ALL, 0, 0, 1);
        x.macro(3, 4);
        due("NEEDS, if a MAKES all", x.actionOf(5, 1), 0);
        x.macro(4, 3);
        due("NEEDS, if a NEEDS all", x.actionOf(6, 1), ALL);
    }

    private static void macroMakes() {
        PlanLandmarks x = new PlanLandmarks();
        x.action(0, 0x0F, 0, 1);
        x.action(0, 0x55, 0x33, 1);
        x.macro(0, 1);
        due("MAKES", x.actionOf(2, 2), 0x0C | 0x55);
        x.action(0, ALL, 0, 1);
        x.action(0, 0, ALL, 1);
        x.macro(3, 4);
        due("MAKES, if b UNDOES all", x.actionOf(5, 2), 0);
        x.macro(4, 3);
        due("MAKES, if b MAKES all", x.actionOf(6, 2), ALL);
    }

    private static void macroUndoes() {
        PlanLandmarks x = new PlanLandmarks();
        x.action(0, 0, 0x0F, 1);
        x.action(0, 0x33, 0x55, 1);
        x.macro(0, 1);
        due("UNDOES", x.actionOf(2, 3), 0x0C | 0x55);
        x.action(0, 0, ALL, 1);
        x.action(0, ALL, 0, 1);
        x.macro(3, 4);
        due("UNDOES, if b MAKES all", x.actionOf(5, 3), 0);
        x.macro(4, 3);
        due("UNDOES, if a MAKES all", x.actionOf(6, 3), ALL);
    }

    private static void macroCost() {
        PlanLandmarks x = new PlanLandmarks();
        x.action(0, 0, 0, 1);
        x.action(0, 0, 0, 37);
        x.macro(0, 0);
        x.macro(1, 2);
        due("COST of 1 and 1", x.actionOf(2, 4), 2);
        due("COST of 37 and 2", x.actionOf(3, 4), 39);
    }

    private static void texts() {
        CHECK.edge("ITEM, then any number of times ; and ITEM", EdgesOfActionsTest::items);
        CHECK.edge("start, goal or now, and SET: it becomes that", EdgesOfActionsTest::becomesThat);
        CHECK.edge("act SET + SET - SET $ N: a new ACTION (NEEDS, MAKES, UNDOES, COST)",
            EdgesOfActionsTest::newActions);
        CHECK.edge("SET: nothing, or FACTS with , between", EdgesOfActionsTest::factsBetweenCommas);
        CHECK.edge("FACTS and N 1 or 2 digits (as many as stand there up to 2)", EdgesOfActionsTest::digits);
        CHECK.edge("no blanks but one behind start, goal, now, act (there also, if SET is nothing)",
            EdgesOfActionsTest::blanks);
        CHECK.edge("All of it holds, or nothing", EdgesOfActionsTest::allOrNothing);
    }

    /** What read() of a TEXT answers on a new object, and its FAULT. */
    private static void text(String letters, int answer, int fault) {
        PlanLandmarks x = new PlanLandmarks();
        due("read of \"" + letters + "\"", Check.readText(x, letters), answer);
        due("fault() of \"" + letters + "\"", x.fault(), fault);
        due("REFUSALS -6 by \"" + letters + "\"", x.status(16), answer == -6 ? 1 : 0);
    }

    private static void items() {
        text("now 1", 1, -1);
        text("now 1;now 2", 2, -1);
        text("now ;now ;now ", 3, -1);
        text("", -6, 0);
        text(";", -6, 0);
        text("now 1;", -6, 6);
        text("now 1;;now 2", -6, 6);
        text("now 1;now 2;", -6, 12);
        text("now 1now 2", -6, 5);
        text("now 1,now 2", -6, 6);
        // As many as a ROW has room for: 32 ITEMS of 4 letters and a ; each.
        text("now ;".repeat(31) + "now 1", 32, -1);
        text("now ;".repeat(32), -6, 160);
    }

    private static void becomesThat() {
        PlanLandmarks x = new PlanLandmarks();
        x.put(0, 3);
        x.put(1, 5);
        x.put(2, 9);
        due("read", Check.readText(x, "goal 4;start 0,29;now 12"), 3);
        due("START", x.status(1), 1 | 1 << 29);
        due("GOAL", x.status(2), 16);
        due("NOW", x.status(3), 1 << 12);
        due("read of nothing for each", Check.readText(x, "start ;goal ;now "), 3);
        for (int what = 1; what <= 3; what++) {
            due("status(" + what + ")", x.status(what), 0);
        }
        due("read of one twice", Check.readText(x, "goal 1,2;goal 3"), 2);
        due("GOAL then", x.status(2), 8);
        due("read of one twice, the last nothing", Check.readText(x, "goal 1,2;goal "), 2);
        due("GOAL then", x.status(2), 0);
    }

    private static void newActions() {
        PlanLandmarks x = new PlanLandmarks();
        due("read", Check.readText(x, "act 0,1+2-3,29$4;act +-$1;act 5+-$99;act +6-$9;act +-7$10"), 5);
        int[][] want = {{3, 4, 8 | 1 << 29, 4}, {0, 0, 0, 1}, {32, 0, 0, 99}, {0, 64, 0, 9}, {0, 0, 128, 10}};
        due("status(0)", x.status(0), want.length);
        for (int a = 0; a < want.length; a++) {
            for (int what = 1; what <= 4; what++) {
                due("actionOf(" + a + ", " + what + ")", x.actionOf(a, what), want[a][what - 1]);
            }
            due("KIND of " + a, x.actionOf(a, 0), 0);
            due("first of " + a, x.actionOf(a, 5), -1);
            due("second of " + a, x.actionOf(a, 6), -1);
        }
    }

    private static void factsBetweenCommas() {
        text("now ", 1, -1);
        text("now 1", 1, -1);
        text("now 1,1", 1, -1);
        text("now 1,2,3,4,5,6,7,8,9,10,29", 1, -1);
        text("now ,", -6, 4);
        text("now ,1", -6, 4);
        text("now 1,", -6, 6);
        text("now 1,,2", -6, 6);
        text("now 1;,2", -6, 6);
        text("now 1.2", -6, 5);
        text("act ,+-$1", -6, 4);
        text("act 1,+-$1", -6, 6);
        text("act 1+2,-$1", -6, 8);
        text("act 1+2-3,$1", -6, 10);
        PlanLandmarks x = new PlanLandmarks();
        Check.readText(x, "now 7,3,7");
        due("NOW by 7,3,7", x.status(3), 128 | 8);
    }

    private static void digits() {
        int[][] facts = {{0, '0'}, {9, '9'}};
        for (int[] fact : facts) {
            PlanLandmarks x = new PlanLandmarks();
            Check.readText(x, "now " + (char) fact[1]);
            due("NOW by " + (char) fact[1], x.status(3), 1 << fact[0]);
            Check.readText(x, "now 0" + (char) fact[1]);
            due("NOW by 0" + (char) fact[1], x.status(3), 1 << fact[0]);
        }
        text("now 00", 1, -1);
        text("now 10,29", 1, -1);
        text("now 000", -6, 6);
        text("now 123", -6, 6);
        text("now 290", -6, 6);
        text("now /", -6, 4);
        text("now :", -6, 4);
        text("now 1/", -6, 5);
        text("now 1:", -6, 5);
        text("act +-$9", 1, -1);
        text("act +-$09", 1, -1);
        text("act +-$99", 1, -1);
        text("act +-$100", -6, 9);
        text("act +-$010", -6, 9);
        text("act +-$", -6, 7);
        text("act +-$,", -6, 7);
    }

    private static void blanks() {
        for (String word : new String[] {"start", "goal", "now"}) {
            int n = word.length();
            text(word + " ", 1, -1);
            text(word + " 1", 1, -1);
            text(word, -6, n);
            text(word + "1", -6, n);
            text(word + ";" + word + " ", -6, n);
            text(word + "  ", -6, n + 1);
            text(word + "  1", -6, n + 1);
            text(word + " 1 ", -6, n + 2);
            text(word + " 1, 2", -6, n + 3);
            text(word + " 1 ,2", -6, n + 2);
            text(" " + word + " 1", -6, 0);
            text(word + " 1; " + word + " 1", -6, n + 3);
            text(word + " 1 ;" + word + " 1", -6, n + 2);
        }
        text("act +-$1", 1, -1);
        text("act+-$1", -6, 3);
        text("act  +-$1", -6, 4);
        text("act 1 +-$1", -6, 5);
        text("act + -$1", -6, 5);
        text("act +- $1", -6, 6);
        text("act +-$ 1", -6, 7);
        text("act +-$1 ", -6, 8);
        text("act +-$1\t", -6, 8);
    }

    private static void allOrNothing() {
        PlanLandmarks x = new PlanLandmarks();
        x.action(1, 2, 4, 8);
        x.put(0, 16);
        x.put(1, 32);
        x.put(2, 64);
        String good = "start 1;act 9+10-11$12;goal 2;now 3;act +-$1";
        for (String bad : new String[] {good + ";", good + ";x", good + ",", good + ";start 30", good + ";act +-$0"}) {
            due("read of \"" + bad + "\"", Check.readText(x, bad), -6);
            due("START", x.status(1), 16);
            due("GOAL", x.status(2), 32);
            due("NOW", x.status(3), 64);
            due("ACTIONS", x.status(0), 1);
            due("actionOf(1, 1)", x.actionOf(1, 1), -5);
        }
        due("read of \"" + good + "\"", Check.readText(x, good), 5);
        due("START", x.status(1), 2);
        due("GOAL", x.status(2), 4);
        due("NOW", x.status(3), 8);
        due("ACTIONS", x.status(0), 3);
        due("MAKES of 0", x.actionOf(0, 2), 2);
        due("MAKES of 1", x.actionOf(1, 2), 1 << 10);
        due("MAKES of 2", x.actionOf(2, 2), 0);
    }

    private static void faults() {
        CHECK.edge("the first place at which an element can't stand as such texts go on",
            EdgesOfActionsTest::firstPlace);
        CHECK.edge("(the number of elements, if it ends too early)", EdgesOfActionsTest::endsTooEarly);
        CHECK.edge("of a FACT or N that may not be its first digit", EdgesOfActionsTest::firstDigit);
        CHECK.edge("of an act that there is no room for its a, judged when act has been read",
            EdgesOfActionsTest::noRoomForAct);
    }

    private static void firstPlace() {
        String whole = "start 1;goal 2,3;now 4;act 5+6-7$8";
        // No letter of the TEXT may be an x; what comes behind doesn't matter.
        for (int place = 0; place < whole.length(); place++) {
            text(whole.substring(0, place) + "x" + whole.substring(place + 1), -6, place);
            text(whole.substring(0, place) + "x", -6, place);
            text(whole.substring(0, place) + "x;now 30;;", -6, place);
        }
        text(whole, 4, -1);
        text(whole + "x", -6, whole.length());
        text("Now 1", -6, 0);
        text("nOw 1", -6, 1);
        text("go 1", -6, 2);
        text("goal 2;start 30;x", -6, 13);
        for (int sort = 0; sort < 4; sort++) {
            // Only of bytes are the lowest 8 bits all there is.
            faultOfElement(sort, 'w' + 256L, sort == 0 ? -1 : 2);
            faultOfElement(sort, 'w' + (1L << 16), sort <= 1 ? -1 : 2);
            faultOfElement(sort, 'w' + (1L << 32), -1);
            faultOfElement(sort, -1L, 2);
            faultOfElement(sort, 0L, 2);
            faultOfElement(sort, Long.MIN_VALUE, 2);
            faultOfElement(sort, Long.MAX_VALUE, 2);
        }
    }

    private static void faultOfElement(int sort, long v, int fault) {
        PlanLandmarks x = new PlanLandmarks();
        x.row(0, sort, 5);
        for (int i = 0; i < 5; i++) {
            x.set(0, i, "now 6".charAt(i));
        }
        x.set(0, 2, v);
        due("read with " + v + " in sort " + sort, x.read(0), fault == -1 ? 1 : -6);
        due("fault() of " + v + " in sort " + sort, x.fault(), fault);
    }

    private static void endsTooEarly() {
        String whole = "start 1,2;act 3,4+5-6$78;goal 9";
        // So far are TEXTS as they stand: "start ", "start 1", "start 1,2", "..$7", "..$78", "..goal ", all.
        String good = " 6 7 9 23 24 30 31 ";
        for (int n = 0; n <= whole.length(); n++) {
            boolean stands = good.contains(" " + n + " ");
            PlanLandmarks x = new PlanLandmarks();
            int answer = Check.readText(x, whole.substring(0, n));
            due("read of the first " + n, answer, !stands ? -6 : n < 10 ? 1 : n < 25 ? 2 : 3);
            due("fault() of the first " + n, x.fault(), stands ? -1 : n);
        }
    }

    private static void firstDigit() {
        for (int n = 0; n < 100; n++) {
            text("now " + n, n < 30 ? 1 : -6, n < 30 ? -1 : 4);
            text("act +-$" + n, n > 0 ? 1 : -6, n > 0 ? -1 : 7);
        }
        text("now 1,30", -6, 6);
        text("now 1,2,31,4", -6, 8);
        text("now 30x", -6, 4);
        text("now 300", -6, 4);
        text("now 30,31", -6, 4);
        text("now 1;goal 40", -6, 11);
        text("act 30+-$1", -6, 4);
        text("act 1+30-$1", -6, 6);
        text("act 1+2-30$1", -6, 8);
        text("act 1+2-29$00", -6, 11);
        text("act 1+2-29$0;x", -6, 11);
        text("act 1+2-29$000", -6, 11);
        text("act 30+-$0", -6, 4);
    }

    private static void faultOf(int actions, String letters, int fault) {
        PlanLandmarks x = new PlanLandmarks();
        for (int a = 0; a < actions; a++) {
            x.action(0, 0, 0, 1);
        }
        String call = "read of \"" + letters + "\" with " + actions;
        due(call, Check.readText(x, letters) < 0 ? -6 : 1, fault == -1 ? 1 : -6);
        due("fault() of " + call, x.fault(), fault);
        if (fault != -1) {
            due("status(0) behind " + call, x.status(0), actions);
        }
    }

    private static void noRoomForAct() {
        faultOf(24, "act +-$1", 0);
        faultOf(24, "act", 0);
        faultOf(24, "actx", 0);
        faultOf(24, "act 30", 0);
        faultOf(24, "ac", 2);
        faultOf(24, "acx", 2);
        faultOf(24, "a", 1);
        faultOf(24, "now 1;act +-$1", 6);
        faultOf(24, "now 1;ac", 8);
        faultOf(24, "now 1;now 2", -1);
        faultOf(23, "act +-$1", -1);
        faultOf(23, "act +-$1;act +-$1", 9);
        faultOf(23, "act +-$1;ac", 11);
        faultOf(23, "act 30+-$1;act +-$1", 4);
        faultOf(23, "act +-$1;now 30;act +-$1", 13);
        faultOf(21, "act +-$1;act +-$1;act +-$1", -1);
        faultOf(21, "act +-$1;act +-$1;act +-$1;act +-$1", 27);
        faultOf(6, "act +-$1;".repeat(17) + "act +-", 159);
        faultOf(7, "act +-$1;".repeat(16) + "act +-$1;", 153);
        faultOf(7, "act +-$1;".repeat(17) + "act", 153);
    }
}
