/** Promises 9 to 16: ACTIONS, MACROS, TEXTS, sets. */
public final class ActionsTest {
    private static final Check CHECK = new Check("ActionsTest");
    private static final int ALL = (1 << 30) - 1;

    private static void due(int promise, String call, long got, long want) {
        CHECK.due(promise, call, got, want);
    }

    public static void main(String[] args) {
        actions();
        macros();
        reads();
        readsByWordsOfInts();
        faultsOfWords();
        faultsOfSetsAndNumbers();
        faultsOfRoom();
        faultOfTheLatest();
        puts();
        actionsOf();
        mays();
        thens();
        CHECK.end();
    }

    private static void whole(int promise, PlanLandmarks x, int a, int... want) {
        for (int what = 0; what < 7; what++) {
            due(promise, "actionOf(" + a + ", " + what + ")", x.actionOf(a, what), want[what]);
        }
    }

    private static void actions() {
        PlanLandmarks x = new PlanLandmarks();
        due(9, "action(0, 0, 0, 1)", x.action(0, 0, 0, 1), 0);
        due(9, "action(ALL, ALL, ALL, 99)", x.action(ALL, ALL, ALL, 99), 1);
        whole(9, x, 0, 0, 0, 0, 0, 1, -1, -1);
        whole(9, x, 1, 0, ALL, ALL, ALL, 99, -1, -1);
        due(9, "action cost 0", x.action(1, 1, 1, 0), -6);
        due(9, "action cost 100", x.action(1, 1, 1, 100), -6);
        due(9, "action cost -1", x.action(1, 1, 1, -1), -6);
        due(9, "action NEEDS 2^30", x.action(1 << 30, 1, 1, 1), -6);
        due(9, "action MAKES -1", x.action(1, -1, 1, 1), -6);
        due(9, "action UNDOES 2^31", x.action(1, 1, 1 << 31, 1), -6);
        for (int a = 2; a < 24; a++) {
            due(9, "action number " + a, x.action(a, 0, 0, 1), a);
        }
        due(9, "action 24", x.action(1, 1, 1, 1), -7);
        due(9, "action 24 of no COST", x.action(1, 1, 1, 0), -6);
        due(9, "status(0)", x.status(0), 24);
        CHECK.refused(9, x, "-6 x 7 -7 x 1");
    }

    private static void macros() {
        PlanLandmarks x = new PlanLandmarks();
        x.action(Check.bits(0, 1), Check.bits(2, 3, 4), Check.bits(0, 5, 6), 40);
        x.action(Check.bits(2, 7), Check.bits(5, 8), Check.bits(3, 7), 50);
        x.action(Check.bits(0), 0, 0, 1);
        x.action(Check.bits(9), Check.bits(9, 10), Check.bits(9), 9);
        due(10, "macro(0, 1)", x.macro(0, 1), 4);
        whole(10, x, 4, 1, Check.bits(0, 1, 7), Check.bits(2, 4, 5, 8), Check.bits(0, 6, 3, 7), 90, 0, 1);
        due(10, "macro(4, 3)", x.macro(4, 3), 5);
        whole(10, x, 5, 2, Check.bits(0, 1, 7, 9), Check.bits(2, 4, 5, 8, 9, 10), Check.bits(0, 3, 6, 7, 9), 99, 4, 3);
        due(10, "macro(3, 3): made, though undone", x.macro(3, 3), 6);
        whole(10, x, 6, 1, Check.bits(9), Check.bits(9, 10), Check.bits(9), 18, 3, 3);
        due(10, "macro(0, 2): undone and needed", x.macro(0, 2), -6);
        due(10, "macro(5, 2): above 99", x.macro(5, 2), -6);
        due(10, "macro(2, 6)", x.macro(2, 6), 7);
        due(10, "status(5)", x.status(5), 4);
        due(10, "macro(8, 0)", x.macro(8, 0), -1);
        due(10, "macro(0, 8)", x.macro(0, 8), -1);
        due(10, "macro(-1, 0)", x.macro(-1, 0), -1);
        due(10, "macro(0, -1)", x.macro(0, -1), -1);
        for (int a = 8; a < 24; a++) {
            due(10, "macro number " + a, x.macro(2, 2), a);
        }
        due(10, "macro 24", x.macro(2, 2), -7);
        due(10, "macro 24 that can't be", x.macro(0, 2), -6);
        due(10, "macro of none", x.macro(24, 0), -1);
        CHECK.refused(10, x, "-1 x 5 -6 x 3 -7 x 1");
    }

    private static void reads() {
        PlanLandmarks x = new PlanLandmarks();
        due(11, "read", Check.readText(x, "goal 29,0,29;act 1,02+3-4,5$07;act +-$99;now ;start 00;now 9,10"), 6);
        due(12, "fault()", x.fault(), -1);
        due(11, "START", x.status(1), 1);
        due(11, "GOAL", x.status(2), Check.bits(0, 29));
        due(11, "NOW", x.status(3), Check.bits(9, 10));
        whole(11, x, 0, 0, Check.bits(1, 2), Check.bits(3), Check.bits(4, 5), 7, -1, -1);
        whole(11, x, 1, 0, 0, 0, 0, 99, -1, -1);
        due(11, "read of goal alone", Check.readText(x, "goal "), 1);
        due(11, "GOAL then", x.status(2), 0);
        due(11, "START then", x.status(1), 1);
        x.put(0, 6);
        x.put(1, 7);
        x.put(2, 8);
        Check.readText(x, "act +-$1");
        due(11, "START as put", x.status(1), 6);
        due(11, "GOAL as put", x.status(2), 7);
        due(11, "NOW as put", x.status(3), 8);
        x.put(0, 1);
        x.put(1, 0);
        x.put(2, Check.bits(9, 10));
        due(11, "read of an act alone", Check.readText(x, "act 29+29-29$1"), 1);
        whole(11, x, 3, 0, 1 << 29, 1 << 29, 1 << 29, 1, -1, -1);
        CHECK.refused(11, x, "");
        x.show(0, 0);
        due(11, "read(8)", x.read(8), -1);
        due(11, "read(-1)", x.read(-1), -1);
        due(11, "read of an ACTION", x.read(0), -2);
        due(11, "read of NOTHING", x.read(1), -3);
        due(11, "read of a FAULT", Check.readText(x, "now 4;start 3;act 1+1-1$1;goal 5;no"), -6);
        due(12, "fault() at the end", x.fault(), 35);
        due(11, "START as ahead", x.status(1), 1);
        due(11, "GOAL as ahead", x.status(2), 0);
        due(11, "NOW as ahead", x.status(3), Check.bits(9, 10));
        due(11, "ACTIONS as ahead", x.status(0), 4);
        CHECK.refused(11, x, "-1 x 2 -2 x 1 -3 x 1 -6 x 1");
        due(11, "the letters of a long text", longText().length(), 160);
        due(11, "read of a long text", Check.readText(x, longText()), 26);
        due(11, "NOW by a long text", x.status(3), Check.bits(4, 8));
    }

    private static String longText() {
        StringBuilder text = new StringBuilder("start 12");
        for (int n = 0; n < 25; n++) {
            text.append(";now ").append(n % 10);
        }
        return text.append(",8").toString();
    }

    private static void readsByWordsOfInts() {
        String letters = "now 3,21";
        for (int sort = 0; sort < 4; sort++) {
            PlanLandmarks x = new PlanLandmarks();
            x.row(0, sort, letters.length());
            for (int i = 0; i < letters.length(); i++) {
                x.set(0, i, letters.charAt(i) + (1L << 32));
            }
            due(11, "read in sort " + sort, x.read(0), 1);
            due(11, "NOW by sort " + sort, x.status(3), Check.bits(3, 21));
            x.set(0, 4, '3' + 256L);
            due(11, "read of 256 too much in sort " + sort, x.read(0), sort == 0 ? 1 : -6);
            due(12, "its FAULT", x.fault(), sort == 0 ? -1 : 4);
            x.set(0, 4, -1L);
            due(11, "read of -1 in sort " + sort, x.read(0), -6);
            due(12, "its FAULT", x.fault(), 4);
        }
    }

    private static void faultOf(String letters, int place) {
        PlanLandmarks x = new PlanLandmarks();
        x.put(0, 5);
        due(11, "read of \"" + letters + "\"", Check.readText(x, letters), place == -1 ? 1 : -6);
        due(12, "fault() of \"" + letters + "\"", x.fault(), place);
        if (place != -1) {
            due(11, "START behind \"" + letters + "\"", x.status(1), 5);
            due(11, "ACTIONS behind \"" + letters + "\"", x.status(0), 0);
        }
    }

    private static void faultsOfWords() {
        faultOf("", 0);
        faultOf("x", 0);
        faultOf(" start 0", 0);
        faultOf("start", 5);
        faultOf("start0", 5);
        faultOf("stop 0", 2);
        faultOf("Start 0", 0);
        faultOf("gaol 0", 1);
        faultOf("goal", 4);
        faultOf("no", 2);
        faultOf("now;", 3);
        faultOf("now  ", 4);
        faultOf("act", 3);
        faultOf("act+-$1", 3);
        faultOf("ac", 2);
        faultOf("atc ", 1);
        faultOf("start 0;", 8);
        faultOf("start 0;;", 8);
        faultOf(";start 0", 0);
        faultOf("start 0; goal 0", 8);
        faultOf("start 0 ;goal 0", 7);
        faultOf("start 0;goal", 12);
        faultOf("start 0goal 1", 7);
        faultOf("now ", -1);
    }

    private static void faultsOfSetsAndNumbers() {
        faultOf("start 30", 6);
        faultOf("start 29", -1);
        faultOf("start 99,", 6);
        faultOf("start 30x", 6);
        faultOf("start 3x", 7);
        faultOf("start 3", -1);
        faultOf("start 123", 8);
        faultOf("start 003", 8);
        faultOf("start 1,", 8);
        faultOf("start 1,,2", 8);
        faultOf("start ,1", 6);
        faultOf("start 1,2,45", 10);
        faultOf("start 1, 2", 8);
        faultOf("start -1", 6);
        faultOf("start +", 6);
        faultOf("act ", 4);
        faultOf("act 1", 5);
        faultOf("act 1-", 5);
        faultOf("act 1+2", 7);
        faultOf("act 1+2+", 7);
        faultOf("act 1+2-", 8);
        faultOf("act 1+2-3", 9);
        faultOf("act 1+2-3;", 9);
        faultOf("act 1+2-3$", 10);
        faultOf("act 1+2-3$;", 10);
        faultOf("act 1+2-3$0", 10);
        faultOf("act 1+2-3$00", 10);
        faultOf("act 1+2-3$0;", 10);
        faultOf("act 1+2-3$001", 10);
        faultOf("act 1+2-3$100", 12);
        faultOf("act 1+2-3$1 ", 11);
        faultOf("act 1+2-3$1,", 11);
        faultOf("act 31+2-3$1", 4);
        faultOf("act 1+32-3$1", 6);
        faultOf("act 1+2-33$1", 8);
        faultOf("act 1,+2-3$1", 6);
        faultOf("act ;", 4);
    }

    private static PlanLandmarks withActions(int n) {
        PlanLandmarks x = new PlanLandmarks();
        for (int a = 0; a < n; a++) {
            x.action(0, 1, 0, 1);
        }
        return x;
    }

    private static void faultsOfRoom() {
        PlanLandmarks x = withActions(24);
        due(11, "read with no room", Check.readText(x, "now 1;act 1+2-3$4"), -6);
        due(12, "fault() is the a", x.fault(), 6);
        due(11, "read with no room and no blank", Check.readText(x, "now 1;actx"), -6);
        due(12, "fault() is the a", x.fault(), 6);
        due(11, "read that ends behind act", Check.readText(x, "act"), -6);
        due(12, "fault() is the a", x.fault(), 0);
        due(11, "read that ends in act", Check.readText(x, "ac"), -6);
        due(12, "fault() is the end", x.fault(), 2);
        due(11, "read of no act", Check.readText(x, "acx"), -6);
        due(12, "fault() is the x", x.fault(), 2);
        x = withActions(22);
        due(11, "read of one too many", Check.readText(x, "act +-$1;act +-$2;act 30+-$3"), -6);
        due(12, "fault() is the third a", x.fault(), 18);
        due(11, "ACTIONS as ahead", x.status(0), 22);
        due(11, "read of two", Check.readText(x, "act +-$1;act +-$2"), 2);
        due(11, "ACTIONS then", x.status(0), 24);
        due(11, "COST of the last", x.actionOf(23, 4), 2);
    }

    private static void faultOfTheLatest() {
        PlanLandmarks x = new PlanLandmarks();
        due(12, "fault() of none", x.fault(), -1);
        x.read(0);
        due(12, "fault() behind NOTHING", x.fault(), -1);
        Check.readText(x, "now x");
        due(12, "fault()", x.fault(), 4);
        x.action(0, 1, 0, 1);
        x.show(1, 0);
        x.read(8);
        x.read(1);
        x.read(2);
        due(12, "fault() as ahead", x.fault(), 4);
        x.image();
        x.restore();
        due(12, "fault() behind restore()", x.fault(), 4);
        Check.readText(x, "now 1");
        due(12, "fault() of a good one", x.fault(), -1);
        CHECK.refused(12, x, "-1 x 1 -2 x 1 -3 x 2 -6 x 1");
    }

    private static void puts() {
        PlanLandmarks x = new PlanLandmarks();
        for (int what = 0; what < 3; what++) {
            due(13, "put(" + what + ", ALL)", x.put(what, ALL), 0);
            due(13, "status then", x.status(1 + what), ALL);
            due(13, "put(" + what + ", what + 3)", x.put(what, what + 3), ALL);
            due(13, "status then", x.status(1 + what), what + 3);
            due(13, "put(" + what + ", 2^30)", x.put(what, 1 << 30), -6);
            due(13, "put(" + what + ", -1)", x.put(what, -1), -6);
            due(13, "status still", x.status(1 + what), what + 3);
        }
        due(13, "put(3, -1)", x.put(3, -1), -5);
        due(13, "put(-1, 0)", x.put(-1, 0), -5);
        CHECK.refused(13, x, "-5 x 2 -6 x 6");
    }

    private static void actionsOf() {
        PlanLandmarks x = new PlanLandmarks();
        x.action(1, 2, 4, 3);
        x.action(8, 16, 32, 6);
        x.macro(1, 0);
        whole(14, x, 0, 0, 1, 2, 4, 3, -1, -1);
        whole(14, x, 1, 0, 8, 16, 32, 6, -1, -1);
        whole(14, x, 2, 1, 9, 18, 36, 9, 1, 0);
        CHECK.refused(14, x, "");
        due(14, "actionOf(3, 0)", x.actionOf(3, 0), -5);
        due(14, "actionOf(-1, 0)", x.actionOf(-1, 0), -5);
        due(14, "actionOf(0, 7)", x.actionOf(0, 7), -5);
        due(14, "actionOf(0, -1)", x.actionOf(0, -1), -5);
        CHECK.refused(14, x, "-5 x 4");
    }

    private static void mays() {
        PlanLandmarks x = new PlanLandmarks();
        due(15, "may(ALL) of none", x.may(ALL), 0);
        x.action(0, 1, 0, 1);
        x.action(3, 1, 0, 1);
        x.action(ALL, 1, 0, 1);
        x.action(2, 1, 0, 1);
        due(15, "may(0)", x.may(0), 1);
        due(15, "may(1)", x.may(1), 1);
        due(15, "may(2)", x.may(2), Check.bits(0, 3));
        due(15, "may(7)", x.may(7), Check.bits(0, 1, 3));
        due(15, "may(ALL)", x.may(ALL), Check.bits(0, 1, 2, 3));
        due(15, "may(2^30)", x.may(1 << 30), -6);
        due(15, "may(-1)", x.may(-1), -6);
        CHECK.refused(15, x, "-6 x 2");
    }

    private static void thens() {
        PlanLandmarks x = new PlanLandmarks();
        x.action(1, 6, 5, 1);
        x.action(8, 0, ALL, 1);
        due(16, "then(1, 0)", x.then(1, 0), 6);
        due(16, "then(25, 0)", x.then(25, 0), 30);
        due(16, "then(13, 0)", x.then(13, 0), 14);
        due(16, "then(ALL, 1)", x.then(ALL, 1), 0);
        due(16, "then(2, 0)", x.then(2, 0), -6);
        due(16, "then(-1, 0)", x.then(-1, 0), -6);
        due(16, "then(2^30 + 1, 0)", x.then((1 << 30) + 1, 0), -6);
        due(16, "then(-1, 2)", x.then(-1, 2), -1);
        due(16, "then(1, -1)", x.then(1, -1), -1);
        CHECK.refused(16, x, "-1 x 2 -6 x 3");
    }
}
