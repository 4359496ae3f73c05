import java.util.function.Supplier;

/**
 * REFUSALS of all promises: each number that the document names for a call, the first that fits where several
 * do, how many there were, and that nothing else changes: what is refused is asked of one of two worlds
 * that were made alike, and afterwards both must tell the same.
 */
public final class RefusalsTest {
    private static final Check CHECK = new Check("RefusalsTest");
    private static final int MAX = Integer.MAX_VALUE;
    private static final int MIN = Integer.MIN_VALUE;
    private static final int NO_SET = 1 << 30;

    public static void main(String[] args) {
        rowsAndSets();
        copies();
        shelves();
        actions();
        macros();
        reads();
        puts();
        states();
        levels();
        guesses();
        reachedOnes();
        tooMany();
        spells();
        judges();
        behinds();
        mostPairs();
        steps();
        restores();
        nothingRefused();
        numbers();
        CHECK.end();
    }

    /** Something of everything, so that a change would be seen. */
    private static PlanLandmarks world() {
        PlanLandmarks x = new PlanLandmarks();
        x.action(1, 2, 1, 40);
        x.action(2, 4, 2, 50);
        x.macro(0, 1);
        x.put(0, 3);
        x.put(1, 2);
        x.put(2, 2);
        x.image();
        x.action(4, 1, 4, 5);
        x.macro(2, 3);
        x.put(0, 1);
        x.put(1, 4);
        x.seed(77);
        x.walk(2);
        Check.text(x, 0, "\u0000\u0001\u0003");
        x.show(1, 2);
        x.row(2, 2, 101);
        x.set(2, 1, 1);
        x.row(3, 3, 0);
        x.show(4, 0);
        x.show(5, 4);
        Check.readText(x, "now x");
        return x;
    }

    private static PlanLandmarks full() {
        PlanLandmarks x = world();
        for (int a = 5; a < 24; a++) {
            x.action(0, 0, 0, 1);
        }
        return x;
    }

    private static PlanLandmarks crowded() {
        PlanLandmarks x = world();
        for (int a = 5; a < 14; a++) {
            x.action(0, 1 << a, 0, 1);
        }
        return x;
    }

    private static PlanLandmarks hopeless() {
        PlanLandmarks x = world();
        x.put(1, 1 << 29);
        return x;
    }

    /** All that can be asked without a refusal, THE IMAGE too. */
    private static String tell(PlanLandmarks x) {
        StringBuilder all = new StringBuilder();
        for (int a = 0; a < x.status(0); a++) {
            for (int what = 0; what < 7; what++) {
                all.append(x.actionOf(a, what)).append(',');
            }
        }
        all.append(" fault ").append(x.fault()).append(" reached ").append(x.reached()).append(" trace ");
        for (int i = 0; i < 4; i++) {
            all.append(x.trace(i)).append(',');
        }
        for (int s = 0; s < 8; s++) {
            for (int i = 0; i < 6; i++) {
                all.append(x.element(s, i)).append(',');
            }
        }
        all.append(x.element(2, 100));
        tellStatus(x, all);
        all.append(" image ").append(x.restore());
        tellStatus(x, all);
        return all.toString();
    }

    private static void tellStatus(PlanLandmarks x, StringBuilder all) {
        all.append(" status ");
        for (int what = 0; what < 7; what++) {
            all.append(x.status(what)).append(',');
        }
        all.append(" holds ");
        for (int s = 0; s < 8; s++) {
            all.append(x.holds(s)).append(',');
        }
    }

    /** A world of which only what is refused is asked. */
    private static final class Asked {
        private final int promise;
        private final Supplier<PlanLandmarks> maker;
        private final int[] counts = new int[8];
        final PlanLandmarks x;

        Asked(int promise, Supplier<PlanLandmarks> maker) {
            this.promise = promise;
            this.maker = maker;
            x = maker.get();
            for (int r = 1; r <= 7; r++) {
                counts[r] = x.status(10 + r);
            }
        }

        void due(String call, int got, int want) {
            CHECK.due(promise, call, got, want);
            counts[-(want % 10)]++;
        }

        void end() {
            for (int r = 1; r <= 7; r++) {
                CHECK.due(promise, "status(" + (10 + r) + ")", x.status(10 + r), counts[r]);
            }
            String got = tell(x);
            String want = tell(maker.get());
            if (!got.equals(want)) {
                CHECK.fail("promise " + promise + ": what was refused changed\n  " + want + " to\n  " + got);
            }
        }
    }

    private static void rowsAndSets() {
        Asked of = new Asked(2, RefusalsTest::world);
        of.due("row(-1, 4, -1)", of.x.row(-1, 4, -1), -1);
        of.due("row(8, 0, 161)", of.x.row(8, 0, 161), -1);
        of.due("row(MIN, 0, 1)", of.x.row(MIN, 0, 1), -1);
        of.due("row(MAX, 0, 1)", of.x.row(MAX, 0, 1), -1);
        of.due("row(0, 4, -1)", of.x.row(0, 4, -1), -4);
        of.due("row(0, 0, -1)", of.x.row(0, 0, -1), -4);
        of.due("row(6, 0, MIN)", of.x.row(6, 0, MIN), -4);
        of.due("row(0, 4, 161)", of.x.row(0, 4, 161), -6);
        of.due("row(0, -1, 161)", of.x.row(0, -1, 161), -6);
        of.due("row(4, 4, 0)", of.x.row(4, 4, 0), -6);
        of.due("row(0, 0, 161)", of.x.row(0, 0, 161), -7);
        of.due("row(6, 3, MAX)", of.x.row(6, 3, MAX), -7);
        of.end();
        of = new Asked(3, RefusalsTest::world);
        of.due("set(-1, -1, 5)", of.x.set(-1, -1, 5), -1);
        of.due("set(8, 0, 5)", of.x.set(8, 0, 5), -1);
        of.due("set(4, -1, 5)", of.x.set(4, -1, 5), -2);
        of.due("set(4, 0, 5)", of.x.set(4, 0, 5), -2);
        of.due("set(6, -1, 5)", of.x.set(6, -1, 5), -3);
        of.due("set(6, 0, 5)", of.x.set(6, 0, 5), -3);
        of.due("set(0, -1, 5)", of.x.set(0, -1, 5), -5);
        of.due("set(0, 3, 5)", of.x.set(0, 3, 5), -5);
        of.due("set(3, 0, 5)", of.x.set(3, 0, 5), -5);
        of.due("set(2, MAX, 5)", of.x.set(2, MAX, 5), -5);
        of.due("set(2, MIN, 5)", of.x.set(2, MIN, 5), -5);
        of.end();
    }

    private static void copies() {
        Asked of = new Asked(4, RefusalsTest::world);
        int[][] calls = {
            {-1, 4, -1, -1, -1, -1}, {4, 8, -1, -1, -1, -1}, {6, 8, 0, 0, 0, -1}, {8, 0, 0, 0, 0, -1},
            {0, -1, 0, 0, 0, -1},
            {4, 0, 0, 0, 1, -2}, {0, 4, 0, 0, 1, -2}, {4, 6, -1, -1, -1, -2}, {6, 4, -1, -1, -1, -2},
            {4, 4, 0, 0, 0, -2}, {0, 2, -1, -1, -1, -2}, {2, 0, 0, 0, 1, -2},
            {0, 6, -1, -1, -1, -3}, {6, 0, 0, 0, 1, -3}, {6, 6, 0, 0, 0, -3},
            {0, 7, -1, -1, -1, -4}, {0, 7, 9, 9, -1, -4}, {0, 0, 0, 0, MIN, -4},
            {0, 7, -1, 0, 1, -5}, {0, 7, 0, -1, 1, -5}, {0, 7, 3, 0, 1, -5}, {0, 7, 0, 5, 1, -5}, {0, 7, 0, 0, 4, -5},
            {0, 7, 1, 0, 3, -5}, {7, 0, 0, 1, 3, -5}, {0, 0, 0, 0, MAX, -5}, {0, 0, MAX, 0, 1, -5},
            {0, 0, 1, 0, MAX, -5}, {0, 0, 0, MAX, MAX, -5}, {0, 7, 4, 0, 0, -5}, {0, 7, 0, 6, 0, -5},
            {0, 7, -1, 0, 0, -5}, {0, 7, 0, -1, 0, -5}, {0, 7, MIN, 0, 1, -5}, {3, 3, 0, 0, 1, -5}};
        for (int[] c : calls) {
            String call = "copy(" + c[0] + ", " + c[1] + ", " + c[2] + ", " + c[3] + ", " + c[4] + ")";
            of.due(call, of.x.copy(c[0], c[1], c[2], c[3], c[4]), c[5]);
        }
        of.end();
    }

    private static void shelves() {
        Asked of = new Asked(6, RefusalsTest::world);
        int[][] shown = {{-1, 0}, {8, 0}, {8, -1}, {8, 5}, {0, 5}, {0, -2}, {4, MAX}, {6, MIN}};
        for (int[] c : shown) {
            of.due("show(" + c[0] + ", " + c[1] + ")", of.x.show(c[0], c[1]), -1);
        }
        of.end();
        of = new Asked(8, RefusalsTest::world);
        int[][] said = {{-1, 0, -1}, {8, 3, -1}, {4, -1, -1}, {4, 3, -1}, {0, 3, -1}, {6, 3, -1}, {6, -1, -1},
            {5, MAX, -1}, {5, MIN, -1},
            {0, 0, -2}, {2, 2, -2}, {4, 1, -2}, {4, 2, -2}, {1, 2, -2}, {6, 0, -3}, {6, 2, -3}};
        for (int[] c : said) {
            of.due("says(" + c[0] + ", " + c[1] + ")", of.x.says(c[0], c[1]), c[2]);
        }
        of.end();
    }

    private static void actions() {
        int[][] wrong = {{-1, 0, 0, 1}, {NO_SET, 0, 0, 1}, {0, -1, 0, 1}, {0, NO_SET, 0, 1}, {0, 0, -1, 1},
            {0, 0, NO_SET, 1}, {0, 0, 0, 0}, {0, 0, 0, 100}, {0, 0, 0, MIN}, {0, 0, 0, MAX}};
        Asked some = new Asked(9, RefusalsTest::world);
        Asked all = new Asked(9, RefusalsTest::full);
        for (int[] c : wrong) {
            String call = "action(" + c[0] + ", " + c[1] + ", " + c[2] + ", " + c[3] + ")";
            some.due(call, some.x.action(c[0], c[1], c[2], c[3]), -6);
            all.due(call + ", no room", all.x.action(c[0], c[1], c[2], c[3]), -6);
        }
        all.due("action(1, 1, 1, 1), no room", all.x.action(1, 1, 1, 1), -7);
        some.end();
        all.end();
    }

    private static void macros() {
        Asked some = new Asked(10, RefusalsTest::world);
        int[][] nobody = {{-1, 0}, {0, -1}, {5, 0}, {0, 5}, {MAX, MIN}};
        for (int[] c : nobody) {
            some.due("macro(" + c[0] + ", " + c[1] + ")", some.x.macro(c[0], c[1]), -1);
        }
        some.due("macro(0, 0)", some.x.macro(0, 0), -6);
        some.due("macro(4, 3)", some.x.macro(4, 3), -6);
        some.end();
        Asked all = new Asked(10, RefusalsTest::full);
        all.due("macro(24, 0), no room", all.x.macro(24, 0), -1);
        all.due("macro(0, 0), no room", all.x.macro(0, 0), -6);
        all.due("macro(4, 3), no room", all.x.macro(4, 3), -6);
        all.due("macro(0, 1), no room", all.x.macro(0, 1), -7);
        all.end();
    }

    private static void reads() {
        Asked of = new Asked(11, RefusalsTest::world);
        of.due("read(-1)", of.x.read(-1), -1);
        of.due("read(8)", of.x.read(8), -1);
        of.due("read(4)", of.x.read(4), -2);
        of.due("read(6)", of.x.read(6), -3);
        CHECK.due(12, "fault() as ahead", of.x.fault(), 4);
        of.due("read(0)", of.x.read(0), -6);
        CHECK.due(12, "fault() of read(0)", of.x.fault(), 0);
        of.due("read(3) of no elements", of.x.read(3), -6);
        // The FAULT alone changes: it must be as it was ahead of that.
        of.due("read(7)", of.x.read(7), -6);
        of.end();
    }

    private static void puts() {
        Asked of = new Asked(13, RefusalsTest::world);
        of.due("put(3, -1)", of.x.put(3, -1), -5);
        of.due("put(-1, 0)", of.x.put(-1, 0), -5);
        of.due("put(MAX, 0)", of.x.put(MAX, 0), -5);
        of.due("put(MIN, MIN)", of.x.put(MIN, MIN), -5);
        for (int what = 0; what < 3; what++) {
            of.due("put(" + what + ", -1)", of.x.put(what, -1), -6);
            of.due("put(" + what + ", 2^30)", of.x.put(what, NO_SET), -6);
        }
        of.end();
        of = new Asked(14, RefusalsTest::world);
        int[][] calls = {{5, 0}, {-1, 0}, {0, 7}, {0, -1}, {5, 7}, {MAX, MIN}, {MIN, MAX}};
        for (int[] c : calls) {
            of.due("actionOf(" + c[0] + ", " + c[1] + ")", of.x.actionOf(c[0], c[1]), -5);
        }
        of.end();
    }

    private static void states() {
        Asked of = new Asked(15, RefusalsTest::world);
        for (int state : new int[] {-1, NO_SET, MAX, MIN}) {
            of.due("may(" + state + ")", of.x.may(state), -6);
        }
        of.end();
        of = new Asked(16, RefusalsTest::world);
        of.due("then(-1, 5)", of.x.then(-1, 5), -1);
        of.due("then(1, -1)", of.x.then(1, -1), -1);
        of.due("then(1, 5)", of.x.then(1, 5), -1);
        of.due("then(-1, 0)", of.x.then(-1, 0), -6);
        of.due("then(2^30 + 1, 0)", of.x.then(NO_SET + 1, 0), -6);
        of.due("then(1, 1)", of.x.then(1, 1), -6);
        of.due("then(0, 4)", of.x.then(0, 4), -6);
        of.end();
    }

    private static void levels() {
        Asked of = new Asked(17, RefusalsTest::world);
        int[][] calls = {{-1, 0}, {NO_SET, 30}, {0, 31}, {0, -1}, {-1, -1}, {1, MAX}, {1, MIN}};
        for (int[] c : calls) {
            of.due("level(" + c[0] + ", " + c[1] + ")", of.x.level(c[0], c[1]), -6);
        }
        of.end();
        of = new Asked(18, RefusalsTest::world);
        int[][] facts = {{-1, 30, -11}, {0, -1, -11}, {0, 30, -11}, {NO_SET, MAX, -11}, {-1, 0, -16}, {NO_SET, 29, -16}};
        for (int[] c : facts) {
            of.due("first(" + c[0] + ", " + c[1] + ")", of.x.first(c[0], c[1]), c[2]);
        }
        of.end();
        of = new Asked(19, RefusalsTest::world);
        int[][] ofActions = {{-1, 5, -11}, {0, -1, -11}, {0, 5, -11}, {NO_SET, MIN, -11}, {-1, 0, -16}, {NO_SET, 4, -16}};
        for (int[] c : ofActions) {
            of.due("firstOf(" + c[0] + ", " + c[1] + ")", of.x.firstOf(c[0], c[1]), c[2]);
        }
        of.end();
    }

    private static void guesses() {
        Asked of = new Asked(20, RefusalsTest::world);
        int[][] calls = {{-1, 4, -11}, {0, -1, -11}, {0, 4, -11}, {NO_SET, MAX, -11}, {0, MIN, -11},
            {-1, 0, -16}, {-1, 3, -16}, {NO_SET, 1, -16}, {MIN, 2, -16}};
        for (int[] c : calls) {
            of.due("guess(" + c[0] + ", " + c[1] + ")", of.x.guess(c[0], c[1]), c[2]);
        }
        of.end();
        Asked relaxed = new Asked(21, RefusalsTest::world);
        Asked helpful = new Asked(22, RefusalsTest::world);
        for (int state : new int[] {-1, NO_SET, MAX, MIN}) {
            relaxed.due("relaxed(" + state + ")", relaxed.x.relaxed(state), -6);
            helpful.due("helpful(" + state + ")", helpful.x.helpful(state), -6);
        }
        relaxed.end();
        helpful.end();
        of = new Asked(24, RefusalsTest::world);
        int[][] ahead = {{-1, 0}, {0, -1}, {30, 0}, {0, 30}, {30, 30}, {MAX, MIN}};
        for (int[] c : ahead) {
            of.due("isAhead(" + c[0] + ", " + c[1] + ")", of.x.isAhead(c[0], c[1]), -1);
        }
        of.end();
    }

    private static void reachedOnes() {
        Asked state = new Asked(26, RefusalsTest::world);
        Asked far = new Asked(27, RefusalsTest::world);
        for (int i : new int[] {-1, 3, 299, 300, MAX, MIN}) {
            state.due("state(" + i + ")", state.x.state(i), -5);
            far.due("far(" + i + ")", far.x.far(i), -5);
        }
        state.end();
        far.end();
        Asked of = new Asked(28, RefusalsTest::world);
        for (int set : new int[] {-1, NO_SET, MAX, MIN}) {
            of.due("numberOf(" + set + ")", of.x.numberOf(set), -16);
        }
        of.end();
        of = new Asked(29, RefusalsTest::world);
        for (int fact : new int[] {-1, 30, MAX, MIN}) {
            of.due("excluded(" + fact + ")", of.x.excluded(fact), -1);
        }
        of.end();
        of = new Asked(30, RefusalsTest::world);
        for (int what : new int[] {-1, 2, MAX, MIN}) {
            of.due("best(" + what + ")", of.x.best(what), -15);
        }
        of.end();
    }

    private static void tooMany() {
        Asked of = new Asked(25, RefusalsTest::crowded);
        CHECK.due(25, "reached()", of.x.reached(), 0);
        of.due("state(0)", of.x.state(0), -5);
        of.due("state(-1)", of.x.state(-1), -5);
        of.due("far(0)", of.x.far(0), -5);
        of.due("far(300)", of.x.far(300), -5);
        of.due("numberOf(1)", of.x.numberOf(1), -15);
        of.due("numberOf(-1)", of.x.numberOf(-1), -15);
        of.due("excluded(0)", of.x.excluded(0), -5);
        of.due("excluded(30)", of.x.excluded(30), -1);
        of.due("best(0)", of.x.best(0), -15);
        of.due("best(1)", of.x.best(1), -15);
        of.due("best(2)", of.x.best(2), -15);
        of.due("bestAt(0)", of.x.bestAt(0), -15);
        of.due("bestAt(-1)", of.x.bestAt(-1), -15);
        of.due("spell(0)", of.x.spell(0), -5);
        of.due("spell(3)", of.x.spell(3), -5);
        of.due("spell(4)", of.x.spell(4), -2);
        of.due("spell(6)", of.x.spell(6), -3);
        of.due("spell(8)", of.x.spell(8), -1);
        of.end();
    }

    private static void spells() {
        Asked of = new Asked(32, RefusalsTest::world);
        of.due("spell(-1)", of.x.spell(-1), -1);
        of.due("spell(8)", of.x.spell(8), -1);
        of.due("spell(4)", of.x.spell(4), -2);
        of.due("spell(6)", of.x.spell(6), -3);
        of.due("spell(3)", of.x.spell(3), -7);
        of.end();
        of = new Asked(32, RefusalsTest::hopeless);
        of.due("spell(8) without a plan", of.x.spell(8), -1);
        of.due("spell(1) without a plan", of.x.spell(1), -2);
        of.due("spell(6) without a plan", of.x.spell(6), -3);
        of.due("spell(0) without a plan", of.x.spell(0), -5);
        of.due("spell(3) without a plan", of.x.spell(3), -5);
        of.end();
    }

    private static void judges() {
        Asked of = new Asked(33, RefusalsTest::world);
        int[][] calls = {{-1, -1, -11}, {8, 0, -11}, {8, 101, -11}, {4, -1, -12}, {4, 0, -12}, {6, -1, -13}, {6, 0, -13},
            {0, -1, -14}, {2, MIN, -14}, {0, 4, -15}, {3, 1, -15}, {0, 101, -15}, {2, 102, -15}, {2, MAX, -15},
            {2, 101, -16}};
        for (int[] c : calls) {
            of.due("judge(" + c[0] + ", " + c[1] + ")", of.x.judge(c[0], c[1]), c[2]);
        }
        of.end();
    }

    private static void behinds() {
        Asked of = new Asked(34, RefusalsTest::world);
        int[][] calls = {{-1, -1, 4, -1}, {8, 0, 0, -1}, {4, -1, 4, -2}, {5, 0, 0, -2}, {6, -1, 4, -3}, {6, 0, 0, -3},
            {0, -1, 4, -4}, {2, MIN, 0, -4}, {0, 4, 0, -5}, {0, 3, 4, -5}, {0, 3, -1, -5}, {0, 3, MAX, -5},
            {0, 101, 0, -5}, {2, 101, 4, -5}, {2, 102, 0, -5}, {2, 3, 4, -5}, {2, 101, 0, -6}, {2, 3, 0, -6},
            {2, 100, 3, -6}, {7, 1, 1, -6}};
        for (int[] c : calls) {
            String call = "behind(" + c[0] + ", " + c[1] + ", " + c[2] + ")";
            of.due(call, of.x.behind(c[0], c[1], c[2]), c[3]);
        }
        of.end();
    }

    private static void mostPairs() {
        Asked of = new Asked(35, RefusalsTest::world);
        int[][] calls = {{-1, -1, -1}, {8, 2, -1}, {4, -1, -2}, {1, 2, -2}, {6, -1, -3}, {6, 2, -3}, {0, -1, -4},
            {7, MIN, -4}, {0, 0, -5}, {0, 1, -5}, {7, 1, -5}, {0, 4, -5}, {7, 6, -5}, {3, 2, -5}, {2, 102, -5},
            {2, 101, -6}, {7, 2, -6}, {7, 5, -6}};
        for (int[] c : calls) {
            of.due("mostPair(" + c[0] + ", " + c[1] + ")", of.x.mostPair(c[0], c[1]), c[2]);
        }
        of.end();
    }

    private static void steps() {
        Asked of = new Asked(36, RefusalsTest::world);
        int[][] calls = {{-1, 0, -1}, {4, 41, -1}, {4, 1, -1}, {MAX, 1, -1}, {MIN, 1, -1}, {0, 0, -6}, {3, 41, -6},
            {1, -1, -6}, {2, MAX, -6}, {0, MIN, -6}};
        for (int[] c : calls) {
            of.due("greedy(" + c[0] + ", " + c[1] + ")", of.x.greedy(c[0], c[1]), c[2]);
        }
        of.end();
        of = new Asked(37, RefusalsTest::world);
        for (int n : new int[] {0, -1, 41, MAX, MIN}) {
            of.due("walk(" + n + ")", of.x.walk(n), -6);
        }
        of.end();
    }

    private static void restores() {
        Asked of = new Asked(41, PlanLandmarks::new);
        of.due("restore() of none", of.x.restore(), -6);
        of.due("restore() of none again", of.x.restore(), -6);
        of.end();
    }

    /** What refuses nothing, whatever it is asked. */
    private static void nothingRefused() {
        Asked of = new Asked(5, RefusalsTest::world);
        for (int odd : new int[] {-1, 8, 30, 160, MAX, MIN}) {
            CHECK.due(5, "element(" + odd + ", 0)", of.x.element(odd, 0), 0);
            CHECK.due(5, "element(0, " + odd + ")", of.x.element(0, odd), 0);
            CHECK.due(7, "holds(" + odd + ")", of.x.holds(odd), -1);
            CHECK.due(31, "bestAt(" + odd + ")", of.x.bestAt(odd), -1);
            CHECK.due(39, "trace(" + odd + ")", of.x.trace(odd), -1);
            CHECK.due(42, "status(" + odd + ")", of.x.status(odd), -1);
        }
        CHECK.due(5, "element(4, 0) of an ACTION", of.x.element(4, 0), 0);
        CHECK.due(5, "element(6, 0) of NOTHING", of.x.element(6, 0), 0);
        CHECK.due(28, "numberOf(0), no REACHED one", of.x.numberOf(0), -1);
        CHECK.due(18, "first(0, 29), in no LEVEL", of.x.first(0, 29), -1);
        CHECK.due(19, "firstOf(0, 0), in no LEVEL", of.x.firstOf(0, 0), -1);
        CHECK.due(20, "guess(0, 1), NONE", of.x.guess(0, 1), -1);
        CHECK.due(33, "judge(0, 3), not WRONG", of.x.judge(0, 3), -1);
        CHECK.due(33, "judge(2, 100), WRONG", of.x.judge(2, 100), 2);
        of.end();
        of = new Asked(30, RefusalsTest::hopeless);
        CHECK.due(30, "best(0), there is none", of.x.best(0), -1);
        CHECK.due(30, "best(1), there is none", of.x.best(1), -1);
        CHECK.due(31, "bestAt(0), there is none", of.x.bestAt(0), -1);
        CHECK.due(23, "landmarks(), none", of.x.landmarks(), 0);
        of.end();
    }

    private static void due(String call, long got, long want) {
        CHECK.due(call, got, want);
    }

    private static void numbers() {
        CHECK.edge("the call answers the number; nothing changes but how many there were; the first that fits, in this order",
            RefusalsTest::firstThatFits);
        CHECK.edge("-1 NOBODY: no such SHELF, ACTION, FACT, KIND, GUESS", RefusalsTest::nobody);
        CHECK.edge("-2 OTHER: a SHELF that holds an ACTION where a ROW is wanted, or the other way about, "
            + "ROWS of two SORTS, an ACTION that isn't of the KIND wanted, or one under it", RefusalsTest::other);
        CHECK.edge("-3 NOTHING: a SHELF that holds NOTHING", RefusalsTest::nothing);
        CHECK.edge("-4 BELOW: a size below 0", RefusalsTest::below);
        CHECK.edge("-5 BEYOND: an element that isn't there; nothing such to be told of", RefusalsTest::beyond);
        CHECK.edge("-6 WRONG: a number that may not be, a FAULT, what can't be as things stand", RefusalsTest::wrong);
        CHECK.edge("-7 ROOM: more than may be", RefusalsTest::room);
    }

    /** One thing after another is set right: copy() then answers -1 to -5, and at last 1. */
    private static void firstThatFits() {
        PlanLandmarks x = world();
        due("copy of all wrong", x.copy(8, 4, -1, -1, -1), -1);
        due("copy, p NOTHING, q an ACTION", x.copy(6, 4, -1, -1, -1), -2);
        due("copy, q NOTHING", x.copy(0, 6, -1, -1, -1), -3);
        due("copy, n below 0", x.copy(0, 7, -1, -1, -1), -4);
        due("copy, i and j below 0", x.copy(0, 7, -1, -1, 1), -5);
        due("copy, j below 0", x.copy(0, 7, 1, -1, 1), -5);
        due("copy", x.copy(0, 7, 1, 1, 1), 1);
        int[] counts = {1, 1, 1, 1, 2, 1, 0};
        for (int r = 0; r < 7; r++) {
            due("status(" + (11 + r) + ")", x.status(11 + r), counts[r]);
        }
    }

    private static void nobody() {
        PlanLandmarks x = world();
        due("row(8, 0, 1), no such SHELF", x.row(8, 0, 1), -1);
        due("judge(-1, 0), no such SHELF", x.judge(-1, 0), -11);
        due("then(1, 5), no such ACTION", x.then(1, 5), -1);
        due("macro(0, -1), no such ACTION", x.macro(0, -1), -1);
        due("show(0, 5), no such ACTION", x.show(0, 5), -1);
        due("firstOf(1, 5), no such ACTION", x.firstOf(1, 5), -11);
        due("isAhead(0, 30), no such FACT", x.isAhead(0, 30), -1);
        due("excluded(-1), no such FACT", x.excluded(-1), -1);
        due("first(1, 30), no such FACT", x.first(1, 30), -11);
        due("says(4, 3), no such KIND", x.says(4, 3), -1);
        due("greedy(4, 1), no such GUESS", x.greedy(4, 1), -1);
        due("guess(1, 4), no such GUESS", x.guess(1, 4), -11);
        due("actionOf(5, 0) alone is BEYOND", x.actionOf(5, 0), -5);
        due("status(11)", x.status(11), 12);
    }

    private static void other() {
        PlanLandmarks x = world();
        due("read(4) of an ACTION", x.read(4), -2);
        due("set(4, 0, 1) of an ACTION", x.set(4, 0, 1), -2);
        due("spell(4) of an ACTION", x.spell(4), -2);
        due("judge(4, 0) of an ACTION", x.judge(4, 0), -12);
        due("says(0, 0) of a ROW", x.says(0, 0), -2);
        due("copy(0, 2, ..) of two SORTS", x.copy(0, 2, 0, 0, 1), -2);
        due("says(4, 1): an ACTION is no MACRO", x.says(4, 1), -2);
        due("says(1, 2): a MACRO is no DEEP", x.says(1, 2), -2);
        due("status(12)", x.status(12), 8);
        due("says(1, 0): a MACRO is under ACTION", x.says(1, 0), 90);
        due("says(5, 1): a DEEP is under MACRO", x.says(5, 1), 203);
        due("says(5, 0): a DEEP is under ACTION", x.says(5, 0), 95);
        due("status(12) still", x.status(12), 8);
    }

    private static void nothing() {
        PlanLandmarks x = world();
        due("set(6, 0, 1)", x.set(6, 0, 1), -3);
        due("copy(6, 0, 0, 0, 0)", x.copy(6, 0, 0, 0, 0), -3);
        due("copy(0, 6, 0, 0, 0)", x.copy(0, 6, 0, 0, 0), -3);
        due("says(6, 0)", x.says(6, 0), -3);
        due("read(6)", x.read(6), -3);
        due("spell(6)", x.spell(6), -3);
        due("judge(6, 0)", x.judge(6, 0), -13);
        due("behind(6, 0, 0)", x.behind(6, 0, 0), -3);
        due("mostPair(6, 2)", x.mostPair(6, 2), -3);
        due("status(13)", x.status(13), 9);
        due("element(6, 0)", x.element(6, 0), 0);
        due("holds(6)", x.holds(6), -1);
        due("row(6, 0, 1)", x.row(6, 0, 1), 1);
        due("set(6, 0, 1) then", x.set(6, 0, 1), 1);
        due("status(13) still", x.status(13), 9);
    }

    private static void below() {
        PlanLandmarks x = world();
        due("row(0, 0, -1)", x.row(0, 0, -1), -4);
        due("copy(0, 0, 0, 0, -1)", x.copy(0, 0, 0, 0, -1), -4);
        due("judge(0, -1)", x.judge(0, -1), -14);
        due("behind(0, -1, 0)", x.behind(0, -1, 0), -4);
        due("mostPair(0, -1)", x.mostPair(0, -1), -4);
        due("status(14)", x.status(14), 5);
        // 0 is no size below 0; and what is no size isn't BELOW.
        due("copy(0, 0, 0, 0, 0)", x.copy(0, 0, 0, 0, 0), 1);
        due("judge(0, 0)", x.judge(0, 0), -1);
        due("behind(0, 0, 0)", x.behind(0, 0, 0), 1);
        due("row(6, 0, 0)", x.row(6, 0, 0), 1);
        due("walk(-1)", x.walk(-1), -6);
        due("greedy(0, -1)", x.greedy(0, -1), -6);
        due("level(0, -1)", x.level(0, -1), -6);
        due("set(0, -1, 1)", x.set(0, -1, 1), -5);
        due("status(14) still", x.status(14), 5);
    }

    private static void beyond() {
        PlanLandmarks x = world();
        due("set(0, 3, 1)", x.set(0, 3, 1), -5);
        due("copy(0, 0, 0, 1, 3)", x.copy(0, 0, 0, 1, 3), -5);
        due("judge(0, 4)", x.judge(0, 4), -15);
        due("behind(0, 4, 0)", x.behind(0, 4, 0), -5);
        due("mostPair(0, 4)", x.mostPair(0, 4), -5);
        due("put(3, 0)", x.put(3, 0), -5);
        due("actionOf(5, 0)", x.actionOf(5, 0), -5);
        due("actionOf(0, 7)", x.actionOf(0, 7), -5);
        due("state(3)", x.state(3), -5);
        due("far(3)", x.far(3), -5);
        due("best(2)", x.best(2), -15);
        due("status(15)", x.status(15), 11);
        due("element(0, 3)", x.element(0, 3), 0);
        due("trace(2)", x.trace(2), -1);
        due("bestAt(1)", x.bestAt(1), -1);
        due("status(15) still", x.status(15), 11);
    }

    private static void wrong() {
        PlanLandmarks x = world();
        int before = x.status(16);
        due("action(0, 0, 0, 100)", x.action(0, 0, 0, 100), -6);
        due("put(0, -1)", x.put(0, -1), -6);
        due("may(-1)", x.may(-1), -6);
        due("guess(-1, 0)", x.guess(-1, 0), -16);
        due("row(0, 4, 1)", x.row(0, 4, 1), -6);
        due("walk(41)", x.walk(41), -6);
        due("read(7), a FAULT", x.read(7), -6);
        due("macro(0, 0), which can't be", x.macro(0, 0), -6);
        due("then(0, 0), which MAY not be", x.then(0, 0), -6);
        due("behind(2, 3, 0), which is WRONG", x.behind(2, 3, 0), -6);
        due("mostPair(7, 2), no ACTIONS", x.mostPair(7, 2), -6);
        due("status(16)", x.status(16) - before, 11);
        x = new PlanLandmarks();
        due("restore() without an image", x.restore(), -6);
        due("status(16)", x.status(16), 1);
    }

    private static void room() {
        PlanLandmarks x = full();
        due("action(0, 0, 0, 1)", x.action(0, 0, 0, 1), -7);
        due("macro(0, 1)", x.macro(0, 1), -7);
        due("row(0, 0, 161)", x.row(0, 0, 161), -7);
        due("spell(3)", x.spell(3), -7);
        due("status(17)", x.status(17), 4);
        // Of a TEXT it is a FAULT.
        due("read of an act", Check.readText(x, "act +-$1"), -6);
        due("status(17) still", x.status(17), 4);
    }
}
