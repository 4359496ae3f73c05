/** Promises 1 to 8: a new object, SHELVES and ROWS. */
public final class ShelvesTest {
    private static final Check CHECK = new Check("ShelvesTest");

    private static void due(int promise, String call, long got, long want) {
        CHECK.due(promise, call, got, want);
    }

    public static void main(String[] args) {
        newObject();
        rows();
        sets();
        copies();
        elements();
        shows();
        holds();
        says();
        CHECK.end();
    }

    private static void newObject() {
        PlanLandmarks x = new PlanLandmarks();
        for (int what : new int[] {0, 1, 2, 3, 5, 6, 11, 12, 13, 14, 15, 16, 17}) {
            due(1, "status(" + what + ")", x.status(what), 0);
        }
        due(1, "status(4)", x.status(4), 1);
        due(1, "actionOf(0, 0)", x.actionOf(0, 0), -5);
        for (int s = 0; s < 8; s++) {
            due(1, "holds(" + s + ")", x.holds(s), -1);
        }
        due(1, "NONE", PlanLandmarks.NONE, -1);
    }

    private static void rows() {
        PlanLandmarks x = new PlanLandmarks();
        due(2, "row(0, 0, 0)", x.row(0, 0, 0), 1);
        due(2, "row(7, 3, 160)", x.row(7, 3, 160), 1);
        due(2, "set(7, 159, 5)", x.set(7, 159, 5), 1);
        due(2, "row(7, 3, 160) anew", x.row(7, 3, 160), 1);
        due(2, "element(7, 159)", x.element(7, 159), 0);
        CHECK.refused(2, x, "");
        due(2, "row(-1, 9, -1)", x.row(-1, 9, -1), -1);
        due(2, "row(8, 0, 0)", x.row(8, 0, 0), -1);
        due(2, "row(0, 9, -1)", x.row(0, 9, -1), -4);
        due(2, "row(0, 4, 161)", x.row(0, 4, 161), -6);
        due(2, "row(0, -1, 1)", x.row(0, -1, 1), -6);
        due(2, "row(0, 1, 161)", x.row(0, 1, 161), -7);
        due(2, "row(0, 1, MAX)", x.row(0, 1, Integer.MAX_VALUE), -7);
        due(2, "row(0, 1, MIN)", x.row(0, 1, Integer.MIN_VALUE), -4);
        due(2, "holds(0) as ahead", x.holds(0), 100);
        CHECK.refused(2, x, "-1 x 2 -4 x 2 -6 x 2 -7 x 2");
        x.action(0, 1, 0, 1);
        x.show(3, 0);
        due(2, "row over an ACTION", x.row(3, 1, 2), 1);
        due(2, "holds(3)", x.holds(3), 101);
    }

    private static void sets() {
        PlanLandmarks x = new PlanLandmarks();
        x.action(0, 1, 0, 1);
        x.show(1, 0);
        for (int sort = 0; sort < 4; sort++) {
            x.row(0, sort, 2);
            due(3, "set in sort " + sort, x.set(0, 1, 0x1122334455667788L + 0x80), 1);
            long v = 0x1122334455667808L;
            long[] kept = {(byte) v, (short) v, (int) v, v};
            due(3, "element of sort " + sort, x.element(0, 1), kept[sort]);
            due(3, "the other of sort " + sort, x.element(0, 0), 0);
            x.set(0, 0, -200L);
            long[] low = {56, -200, -200, -200};
            due(3, "element -200 of sort " + sort, x.element(0, 0), low[sort]);
            x.set(0, 0, 0xFFFFL);
            long[] ones = {-1, -1, 65535, 65535};
            due(3, "element 65535 of sort " + sort, x.element(0, 0), ones[sort]);
        }
        CHECK.refused(3, x, "");
        due(3, "set(8, 0, 1)", x.set(8, 0, 1), -1);
        due(3, "set(-1, 0, 1)", x.set(-1, 0, 1), -1);
        due(3, "set of an ACTION", x.set(1, 9, 1), -2);
        due(3, "set of NOTHING", x.set(2, -9, 1), -3);
        due(3, "set(0, 2, 1)", x.set(0, 2, 1), -5);
        due(3, "set(0, -1, 1)", x.set(0, -1, 1), -5);
        CHECK.refused(3, x, "-1 x 2 -2 x 1 -3 x 1 -5 x 2");
    }

    private static void copies() {
        PlanLandmarks x = new PlanLandmarks();
        Check.numbers(x, 0, 1, 2, 3, 4, 5);
        Check.numbers(x, 1, 10, 20, 30);
        due(4, "copy(0, 1, 3, 1, 2)", x.copy(0, 1, 3, 1, 2), 1);
        row(4, x, 1, 10, 4, 5);
        row(4, x, 0, 1, 2, 3, 4, 5);
        due(4, "copy upward in one", x.copy(0, 0, 0, 1, 4), 1);
        row(4, x, 0, 1, 1, 2, 3, 4);
        due(4, "copy downward in one", x.copy(0, 0, 2, 0, 3), 1);
        row(4, x, 0, 2, 3, 4, 3, 4);
        due(4, "none, at both ends", x.copy(0, 1, 5, 3, 0), 1);
        CHECK.refused(4, x, "");
        x.action(0, 1, 0, 1);
        x.show(2, 0);
        x.row(3, 1, 9);
        due(4, "copy(8, 2..)", x.copy(8, 2, 0, 0, -1), -1);
        due(4, "copy(2, -1..)", x.copy(2, -1, 0, 0, -1), -1);
        due(4, "copy ACTION, NOTHING", x.copy(2, 5, 0, 0, -1), -2);
        due(4, "copy NOTHING, ACTION", x.copy(5, 2, 0, 0, -1), -2);
        due(4, "copy of two SORTS", x.copy(0, 3, 0, 0, -1), -2);
        due(4, "copy ROW, NOTHING", x.copy(3, 5, 0, 0, -1), -3);
        due(4, "copy NOTHING, ROW", x.copy(5, 0, 0, 0, -1), -3);
        due(4, "copy n below 0", x.copy(0, 1, -1, 0, -1), -4);
        due(4, "copy i below 0", x.copy(0, 1, -1, 0, 1), -5);
        due(4, "copy j below 0", x.copy(0, 1, 0, -1, 1), -5);
        due(4, "copy beyond p", x.copy(0, 1, 4, 0, 2), -5);
        due(4, "copy beyond q", x.copy(0, 1, 0, 2, 2), -5);
        due(4, "copy none beyond p", x.copy(0, 1, 6, 0, 0), -5);
        due(4, "copy none beyond q", x.copy(0, 1, 0, 4, 0), -5);
        due(4, "copy MAX", x.copy(0, 1, 1, 1, Integer.MAX_VALUE), -5);
        due(4, "copy at MAX", x.copy(0, 1, Integer.MAX_VALUE, 0, 1), -5);
        row(4, x, 1, 10, 4, 5);
        CHECK.refused(4, x, "-1 x 2 -2 x 3 -3 x 2 -4 x 1 -5 x 8");
    }

    private static void row(int promise, PlanLandmarks x, int s, int... want) {
        for (int i = 0; i < want.length; i++) {
            due(promise, "element(" + s + ", " + i + ")", x.element(s, i), want[i]);
        }
    }

    private static void elements() {
        PlanLandmarks x = new PlanLandmarks();
        x.action(0, 1, 0, 1);
        x.row(0, 3, 2);
        x.set(0, 1, Long.MIN_VALUE + 7);
        x.show(1, 0);
        due(5, "element(0, 1)", x.element(0, 1), Long.MIN_VALUE + 7);
        due(5, "element(0, 2)", x.element(0, 2), 0);
        due(5, "element(0, -1)", x.element(0, -1), 0);
        due(5, "element(1, 0)", x.element(1, 0), 0);
        due(5, "element(2, 0)", x.element(2, 0), 0);
        due(5, "element(8, 0)", x.element(8, 0), 0);
        due(5, "element(-1, 0)", x.element(-1, 0), 0);
        x.row(0, 3, 1);
        due(5, "element(0, 1) of the shorter", x.element(0, 1), 0);
        CHECK.refused(5, x, "");
    }

    private static void shows() {
        PlanLandmarks x = new PlanLandmarks();
        due(6, "show(0, NONE)", x.show(0, -1), 0);
        due(6, "show(0, 0)", x.show(0, 0), -1);
        x.action(0, 1, 0, 1);
        due(6, "show(0, 0) then", x.show(0, 0), 1);
        due(6, "holds(0)", x.holds(0), 0);
        due(6, "show(0, 1)", x.show(0, 1), -1);
        due(6, "show(0, -2)", x.show(0, -2), -1);
        due(6, "show(8, 0)", x.show(8, 0), -1);
        due(6, "show(-1, -1)", x.show(-1, -1), -1);
        due(6, "holds(0) still", x.holds(0), 0);
        x.row(0, 2, 3);
        due(6, "show over a ROW", x.show(0, -1), 0);
        due(6, "holds(0) then", x.holds(0), -1);
        CHECK.refused(6, x, "-1 x 5");
    }

    private static void holds() {
        PlanLandmarks x = new PlanLandmarks();
        x.action(0, 1, 0, 1);
        x.action(0, 2, 0, 1);
        x.show(4, 1);
        for (int sort = 0; sort < 4; sort++) {
            x.row(sort, sort, 0);
            due(7, "holds of sort " + sort, x.holds(sort), 100 + sort);
        }
        due(7, "holds(4)", x.holds(4), 1);
        due(7, "holds(5)", x.holds(5), -1);
        due(7, "holds(8)", x.holds(8), -1);
        due(7, "holds(-1)", x.holds(-1), -1);
        CHECK.refused(7, x, "");
    }

    private static void says() {
        PlanLandmarks x = new PlanLandmarks();
        x.action(0, 1, 0, 5);
        x.action(0, 2, 0, 7);
        x.macro(1, 0);
        x.macro(2, 1);
        x.macro(3, 3);
        x.macro(2, 2);
        for (int a = 0; a < 6; a++) {
            x.show(a, a);
        }
        int[][] want = {{5, -2, -2}, {7, -2, -2}, {12, 100, -2}, {19, 201, 3}, {38, 303, 6}, {24, 202, 4}};
        for (int a = 0; a < 6; a++) {
            for (int kind = 0; kind < 3; kind++) {
                due(8, "says(" + a + ", " + kind + ")", x.says(a, kind), want[a][kind]);
            }
        }
        CHECK.refused(8, x, "-2 x 5");
        x.row(6, 0, 1);
        due(8, "says(8, 0)", x.says(8, 0), -1);
        due(8, "says(-1, 0)", x.says(-1, 0), -1);
        due(8, "says(7, 3)", x.says(7, 3), -1);
        due(8, "says(0, -1)", x.says(0, -1), -1);
        due(8, "says of a ROW", x.says(6, 0), -2);
        due(8, "says of NOTHING", x.says(7, 2), -3);
        CHECK.refused(8, x, "-1 x 4 -2 x 6 -3 x 1");
    }
}
