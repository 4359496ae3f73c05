import java.util.Arrays;

/**
 * A planner over facts. The numbered promises of DOC.md tell what every call answers; the words
 * written in capitals there (STATE, LEVEL, BAR, ...) bear the same meaning in the comments here.
 *
 * Every array is made in a constructor and used again, so that no call makes an object.
 */
public final class PlanLandmarks {
    public static final int NONE = -1;

    private static final int FACTS = 30;
    private static final int ALL_FACTS = (1 << FACTS) - 1;
    private static final int MOST_ACTIONS = 24;
    private static final int MOST_COST = 99;
    private static final int SHELVES = 8;
    private static final int MOST_ELEMENTS = 160;
    private static final int MOST_TOLD = 100;
    private static final int MOST_STEPS = 40;
    private static final int MOST_STATES = 300;

    private static final int KIND_ACTION = 0;
    private static final int KIND_MACRO = 1;
    private static final int KIND_DEEP = 2;

    private static final int SORT_BYTES = 0;
    private static final int SORT_SHORTS = 1;
    private static final int SORT_INTS = 2;
    private static final int SORT_LONGS = 3;
    private static final int ROW_MARK = 100;

    private static final int GUESS_LEFT = 0;
    private static final int GUESS_GREATEST = 1;
    private static final int GUESS_SUM = 2;
    private static final int GUESS_PLAN = 3;

    private static final int NOBODY = -1;
    private static final int OTHER = -2;
    private static final int NOTHING = -3;
    private static final int BELOW = -4;
    private static final int BEYOND = -5;
    private static final int WRONG = -6;
    private static final int ROOM = -7;
    private static final int REFUSAL_KINDS = 7;
    /** Calls for which -1 to -6 are answers of their own tell these refusals by -11 to -16. */
    private static final int SHIFT = -10;

    private final ActionTable table = new ActionTable();
    private final Shelf[] shelves = new Shelf[SHELVES];
    private final Levels levels = new Levels(table);
    private final Guesser guesser = new Guesser(table, levels);
    private final Reach reach = new Reach(table);
    private final Paths paths = new Paths(table, reach);
    private final TextReader reader = new TextReader(table);
    private final ToldPlan told = new ToldPlan(table);
    private final Picture picture = new Picture();
    private final int[] refusals = new int[REFUSAL_KINDS];
    private final int[] steps = new int[MOST_STEPS];
    private int stepCount = 0;
    private int startSet = 0;
    private int goalSet = 0;
    private int nowState = 0;
    private int seedValue = 1;
    private int faultPlace = NONE;

    public PlanLandmarks() {
        for (int s = 0; s < SHELVES; s++) {
            shelves[s] = new Shelf();
        }
    }

    // ---- shelves and rows

    public int row(int s, int sort, int n) {
        if (!isShelf(s)) {
            return refuse(NOBODY);
        }
        if (n < 0) {
            return refuse(BELOW);
        }
        if (sort < SORT_BYTES || sort > SORT_LONGS) {
            return refuse(WRONG);
        }
        if (n > MOST_ELEMENTS) {
            return refuse(ROOM);
        }
        shelves[s].holdRow(sort, n);
        return 1;
    }

    public int set(int s, int i, long v) {
        int refusal = refusalOfRow(s);
        if (refusal != 0) {
            return refuse(refusal);
        }
        if (!shelves[s].hasElement(i)) {
            return refuse(BEYOND);
        }
        shelves[s].keep(i, v);
        return 1;
    }

    public int copy(int p, int q, int i, int j, int n) {
        int refusal = refusalOfTwoRows(p, q);
        if (refusal != 0) {
            return refuse(refusal);
        }
        if (n < 0) {
            return refuse(BELOW);
        }
        if (!shelves[p].hasStretch(i, n) || !shelves[q].hasStretch(j, n)) {
            return refuse(BEYOND);
        }
        System.arraycopy(shelves[p].elements, i, shelves[q].elements, j, n);
        return 1;
    }

    public long element(int s, int i) {
        return isShelf(s) ? shelves[s].longAt(i) : 0L;
    }

    public int show(int s, int a) {
        if (!isShelf(s) || (a != NONE && !table.has(a))) {
            return refuse(NOBODY);
        }
        shelves[s].holdAction(a);
        return a == NONE ? 0 : 1;
    }

    public int holds(int s) {
        return isShelf(s) ? shelves[s].content : NONE;
    }

    public int says(int s, int kind) {
        if (!isShelf(s) || kind < KIND_ACTION || kind > KIND_DEEP) {
            return refuse(NOBODY);
        }
        int a = shelves[s].content;
        if (a == NONE) {
            return refuse(NOTHING);
        }
        // A ROW's content is no ACTION's number, so this refuses it too.
        if (!table.has(a) || table.kinds[a] < kind) {
            return refuse(OTHER);
        }
        if (kind == KIND_ACTION) {
            return table.costs[a];
        }
        return kind == KIND_MACRO ? 100 * table.firsts[a] + table.seconds[a] : table.plainParts[a];
    }

    // ---- actions

    public int action(int needs, int makes, int undoes, int cost) {
        if (!isFacts(needs) || !isFacts(makes) || !isFacts(undoes) || cost < 1 || cost > MOST_COST) {
            return refuse(WRONG);
        }
        if (table.count >= MOST_ACTIONS) {
            return refuse(ROOM);
        }
        table.write(table.count, needs, makes, undoes, cost);
        table.count++;
        forgetSearch();
        return table.count - 1;
    }

    public int macro(int a, int b) {
        if (!table.has(a) || !table.has(b)) {
            return refuse(NOBODY);
        }
        if (!table.canJoin(a, b)) {
            return refuse(WRONG);
        }
        if (table.count >= MOST_ACTIONS) {
            return refuse(ROOM);
        }
        table.writeJoined(table.count, a, b);
        table.count++;
        forgetSearch();
        return table.count - 1;
    }

    public int read(int s) {
        int refusal = refusalOfRow(s);
        if (refusal != 0) {
            return refuse(refusal);
        }
        reader.readAll(shelves[s], startSet, goalSet, nowState);
        faultPlace = reader.faultAt;
        if (faultPlace != NONE) {
            return refuse(WRONG);
        }
        startSet = reader.startRead;
        goalSet = reader.goalRead;
        nowState = reader.nowRead;
        table.count += reader.staged;
        forgetSearch();
        return reader.items;
    }

    public int fault() {
        return faultPlace;
    }

    public int put(int what, int set) {
        if (what < 0 || what > 2) {
            return refuse(BEYOND);
        }
        if (!isFacts(set)) {
            return refuse(WRONG);
        }
        int old;
        if (what == 0) {
            old = startSet;
            startSet = set;
        } else if (what == 1) {
            old = goalSet;
            goalSet = set;
        } else {
            old = nowState;
            nowState = set;
        }
        forgetSearch();
        return old;
    }

    public int actionOf(int a, int what) {
        if (!table.has(a)) {
            return refuse(BEYOND);
        }
        switch (what) {
            case 0: return table.kinds[a];
            case 1: return table.needs[a];
            case 2: return table.makes[a];
            case 3: return table.undoes[a];
            case 4: return table.costs[a];
            case 5: return table.firsts[a];
            case 6: return table.seconds[a];
            default: return refuse(BEYOND);
        }
    }

    public int may(int state) {
        return isFacts(state) ? table.allowedIn(state) : refuse(WRONG);
    }

    public int then(int state, int a) {
        if (!table.has(a)) {
            return refuse(NOBODY);
        }
        if (!isFacts(state) || !table.isAllowed(state, a)) {
            return refuse(WRONG);
        }
        return table.after(state, a);
    }

    // ---- relaxed

    public int level(int state, int k) {
        if (!isFacts(state) || k < 0 || k > FACTS) {
            return refuse(WRONG);
        }
        levels.spread(state, 0);
        return levels.factsAt(k);
    }

    public int first(int state, int fact) {
        if (!isFact(fact)) {
            return refuseShifted(NOBODY);
        }
        if (!isFacts(state)) {
            return refuseShifted(WRONG);
        }
        levels.spread(state, 0);
        return levels.firstWith(1 << fact);
    }

    public int firstOf(int state, int a) {
        if (!table.has(a)) {
            return refuseShifted(NOBODY);
        }
        if (!isFacts(state)) {
            return refuseShifted(WRONG);
        }
        levels.spread(state, 0);
        return levels.firstWith(table.needs[a]);
    }

    public int guess(int state, int which) {
        if (!isGuess(which)) {
            return refuseShifted(NOBODY);
        }
        if (!isFacts(state)) {
            return refuseShifted(WRONG);
        }
        return guesser.guessOf(state, goalSet, which);
    }

    public int relaxed(int state) {
        if (!isFacts(state)) {
            return refuse(WRONG);
        }
        guesser.plan.make(state, goalSet);
        return guesser.plan.chosen;
    }

    public int helpful(int state) {
        if (!isFacts(state)) {
            return refuse(WRONG);
        }
        guesser.plan.make(state, goalSet);
        return guesser.plan.helpfulIn(state);
    }

    public int landmarks() {
        levels.spread(startSet, 0);
        if (levels.firstWith(goalSet) == NONE) {
            return 0;
        }
        int found = 0;
        for (int fact = 0; fact < FACTS; fact++) {
            levels.spread(startSet, 1 << fact);
            if (levels.firstWith(goalSet) == NONE) {
                found |= 1 << fact;
            }
        }
        return found;
    }

    public int isAhead(int fact, int other) {
        if (!isFact(fact) || !isFact(other)) {
            return refuse(NOBODY);
        }
        if (fact == other) {
            return 0;
        }
        levels.spread(startSet, 1 << fact);
        return levels.firstWith(1 << other) == NONE ? 1 : 0;
    }

    // ---- states and plans

    public int reached() {
        return isTooMany() ? 0 : reach.count;
    }

    public int state(int i) {
        if (isTooMany() || !reach.hasNumber(i)) {
            return refuse(BEYOND);
        }
        return reach.states[i];
    }

    public int far(int i) {
        if (isTooMany() || !reach.hasNumber(i)) {
            return refuse(BEYOND);
        }
        paths.measure();
        return paths.costTo(i);
    }

    public int numberOf(int state) {
        if (isTooMany()) {
            return refuseShifted(BEYOND);
        }
        return isFacts(state) ? reach.find(state) : refuseShifted(WRONG);
    }

    public int excluded(int fact) {
        if (!isFact(fact)) {
            return refuse(NOBODY);
        }
        if (isTooMany()) {
            return refuse(BEYOND);
        }
        return ALL_FACTS & ~reach.everWith(1 << fact);
    }

    public int best(int what) {
        if (what < 0 || what > 1 || isTooMany()) {
            return refuseShifted(BEYOND);
        }
        paths.choose(goalSet);
        if (!paths.found) {
            return NONE;
        }
        return what == 0 ? paths.planCost : paths.planLength;
    }

    public int bestAt(int i) {
        if (isTooMany()) {
            return refuseShifted(BEYOND);
        }
        paths.choose(goalSet);
        return paths.stepAt(i);
    }

    public int spell(int s) {
        int refusal = refusalOfRow(s);
        if (refusal != 0) {
            return refuse(refusal);
        }
        if (isTooMany()) {
            return refuse(BEYOND);
        }
        paths.choose(goalSet);
        if (!paths.found) {
            return refuse(BEYOND);
        }
        if (paths.planLength > shelves[s].size) {
            return refuse(ROOM);
        }
        for (int i = 0; i < paths.planLength; i++) {
            shelves[s].keep(i, paths.stepAt(i));
        }
        return paths.planLength;
    }

    public int judge(int s, int n) {
        int refusal = refusalOfTold(s, n);
        if (refusal != 0) {
            return refuseShifted(refusal);
        }
        if (n > MOST_TOLD) {
            return refuseShifted(WRONG);
        }
        told.follow(shelves[s], n, startSet);
        return told.wrongAt;
    }

    public int behind(int s, int n, int what) {
        int refusal = refusalOfTold(s, n);
        if (refusal != 0) {
            return refuse(refusal);
        }
        if (what < 0 || what > 3) {
            return refuse(BEYOND);
        }
        if (n > MOST_TOLD) {
            return refuse(WRONG);
        }
        told.follow(shelves[s], n, startSet);
        if (told.wrongAt != NONE) {
            return refuse(WRONG);
        }
        int lacking = goalSet & ~told.endState;
        switch (what) {
            case 0: return told.endState;
            case 1: return told.costSum;
            case 2: return lacking == 0 ? 1 : 0;
            default: return lacking;
        }
    }

    public int mostPair(int s, int n) {
        int refusal = refusalOfTold(s, n);
        if (refusal != 0) {
            return refuse(refusal);
        }
        if (n < 2) {
            return refuse(BEYOND);
        }
        if (n > MOST_TOLD || !told.areActions(shelves[s], n)) {
            return refuse(WRONG);
        }
        int pair = told.commonestPair(shelves[s], n);
        return 100 * (pair / MOST_ACTIONS) + pair % MOST_ACTIONS;
    }

    // ---- steps from NOW

    public int greedy(int which, int n) {
        if (!isGuess(which)) {
            return refuse(NOBODY);
        }
        if (n < 1 || n > MOST_STEPS) {
            return refuse(WRONG);
        }
        stepCount = 0;
        for (int i = 0; i < n && (goalSet & ~nowState) != 0; i++) {
            int a = guesser.greediest(nowState, goalSet, which);
            if (a == NONE) {
                break;
            }
            step(a);
        }
        return stepCount;
    }

    public int walk(int n) {
        if (n < 1 || n > MOST_STEPS) {
            return refuse(WRONG);
        }
        stepCount = 0;
        for (int i = 0; i < n; i++) {
            int allowed = table.allowedIn(nowState);
            if (allowed == 0) {
                break;
            }
            step(actionBehind(allowed, draw(Integer.bitCount(allowed))));
        }
        return stepCount;
    }

    public int seed(int v) {
        int old = seedValue;
        seedValue = v;
        return old;
    }

    public int trace(int i) {
        return i >= 0 && i < stepCount ? steps[i] : NONE;
    }

    // ---- the image, and how many

    public int image() {
        picture.taken = true;
        // ACTIONS never change and go only by restore(), so their number tells which ones there were.
        picture.actions = table.count;
        picture.start = startSet;
        picture.goal = goalSet;
        picture.now = nowState;
        picture.seed = seedValue;
        return table.count;
    }

    public int restore() {
        if (!picture.taken) {
            return refuse(WRONG);
        }
        table.count = picture.actions;
        startSet = picture.start;
        goalSet = picture.goal;
        nowState = picture.now;
        seedValue = picture.seed;
        for (int s = 0; s < SHELVES; s++) {
            if (shelves[s].hasAction() && !table.has(shelves[s].content)) {
                shelves[s].holdAction(NONE);
            }
        }
        forgetSearch();
        return table.count;
    }

    public int status(int what) {
        if (what >= 11 && what <= 10 + REFUSAL_KINDS) {
            return refusals[what - 11];
        }
        switch (what) {
            case 0: return table.count;
            case 1: return startSet;
            case 2: return goalSet;
            case 3: return nowState;
            case 4: return seedValue;
            case 5: return table.countMacros();
            case 6: return stepCount;
            default: return NONE;
        }
    }

    // ---- helpers

    private static boolean isShelf(int s) {
        return s >= 0 && s < SHELVES;
    }

    private static boolean isFact(int fact) {
        return fact >= 0 && fact < FACTS;
    }

    private static boolean isFacts(int set) {
        return (set & ~ALL_FACTS) == 0;
    }

    private static boolean isGuess(int which) {
        return which >= GUESS_LEFT && which <= GUESS_PLAN;
    }

    /** The ACTION of a set that has n lower ones in it; NONE: there are no more than n. */
    private static int actionBehind(int set, int n) {
        int lower = 0;
        for (int a = 0; a < MOST_ACTIONS; a++) {
            if ((set & (1 << a)) != 0) {
                if (lower == n) {
                    return a;
                }
                lower++;
            }
        }
        return NONE;
    }

    private int refuse(int refusal) {
        int at = -refusal - 1;
        if (at >= 0 && at < REFUSAL_KINDS) {
            refusals[at]++;
        }
        return refusal;
    }

    private int refuseShifted(int refusal) {
        return refuse(refusal) + SHIFT;
    }

    /** NOBODY, OTHER or NOTHING, if there is no ROW in SHELF s; else 0. */
    private int refusalOfRow(int s) {
        if (!isShelf(s)) {
            return NOBODY;
        }
        if (shelves[s].hasAction()) {
            return OTHER;
        }
        return shelves[s].hasRow() ? 0 : NOTHING;
    }

    private int refusalOfTwoRows(int p, int q) {
        int ofP = refusalOfRow(p);
        int ofQ = refusalOfRow(q);
        if (ofP == NOBODY || ofQ == NOBODY) {
            return NOBODY;
        }
        if (ofP == OTHER || ofQ == OTHER) {
            return OTHER;
        }
        if (ofP == NOTHING || ofQ == NOTHING) {
            return NOTHING;
        }
        return shelves[p].content == shelves[q].content ? 0 : OTHER;
    }

    /** What is refused of a told PLAN up to BEYOND; what comes behind that, each call adds. */
    private int refusalOfTold(int s, int n) {
        int refusal = refusalOfRow(s);
        if (refusal != 0) {
            return refusal;
        }
        if (n < 0) {
            return BELOW;
        }
        return n > shelves[s].size ? BEYOND : 0;
    }

    private boolean isTooMany() {
        reach.explore(startSet);
        return reach.tooMany;
    }

    /** START, GOAL and ACTIONS bear the search, so whatever may touch them calls this. */
    private void forgetSearch() {
        reach.fresh = false;
        paths.forget();
    }

    private void step(int a) {
        if (table.has(a) && stepCount < MOST_STEPS) {
            nowState = table.after(nowState, a);
            steps[stepCount] = a;
            stepCount++;
        }
    }

    private int draw(int below) {
        seedValue = seedValue * 1103515245 + 12345;
        return below > 0 ? (seedValue >>> 16) % below : 0;
    }

    // ---- classes inside

    /** The ACTIONS by numbers. What stands behind the count is free to be written for a try. */
    private static final class ActionTable {
        final int[] needs = new int[MOST_ACTIONS];
        final int[] makes = new int[MOST_ACTIONS];
        final int[] undoes = new int[MOST_ACTIONS];
        final int[] costs = new int[MOST_ACTIONS];
        final int[] kinds = new int[MOST_ACTIONS];
        final int[] firsts = new int[MOST_ACTIONS];
        final int[] seconds = new int[MOST_ACTIONS];
        /** How many ACTIONS that are no MACROS one comes to. */
        final int[] plainParts = new int[MOST_ACTIONS];
        int count = 0;

        boolean has(int a) {
            return a >= 0 && a < count;
        }

        void write(int a, int needed, int made, int undone, int cost) {
            if (a < 0 || a >= MOST_ACTIONS) {
                return;
            }
            needs[a] = needed;
            makes[a] = made;
            undoes[a] = undone;
            costs[a] = cost;
            kinds[a] = KIND_ACTION;
            firsts[a] = NONE;
            seconds[a] = NONE;
            plainParts[a] = 1;
        }

        boolean canJoin(int a, int b) {
            return (undoes[a] & ~makes[a] & needs[b]) == 0 && costs[a] + costs[b] <= MOST_COST;
        }

        void writeJoined(int at, int a, int b) {
            if (at < 0 || at >= MOST_ACTIONS) {
                return;
            }
            int needed = needs[a] | (needs[b] & ~makes[a]);
            int made = (makes[a] & ~undoes[b]) | makes[b];
            int undone = (undoes[a] & ~makes[b]) | undoes[b];
            write(at, needed, made, undone, costs[a] + costs[b]);
            boolean plain = kinds[a] == KIND_ACTION && kinds[b] == KIND_ACTION;
            kinds[at] = plain ? KIND_MACRO : KIND_DEEP;
            firsts[at] = a;
            seconds[at] = b;
            plainParts[at] = plainParts[a] + plainParts[b];
        }

        boolean isAllowed(int state, int a) {
            return (needs[a] & ~state) == 0;
        }

        int allowedIn(int state) {
            int allowed = 0;
            for (int a = 0; a < count; a++) {
                if (isAllowed(state, a)) {
                    allowed |= 1 << a;
                }
            }
            return allowed;
        }

        int after(int state, int a) {
            return (state & ~undoes[a]) | makes[a];
        }

        int countMacros() {
            int macros = 0;
            for (int a = 0; a < count; a++) {
                if (kinds[a] != KIND_ACTION) {
                    macros++;
                }
            }
            return macros;
        }
    }

    /** What one SHELF holds: NONE, an ACTION's number, or a ROW's SORT above ROW_MARK. */
    private static final class Shelf {
        final long[] elements = new long[MOST_ELEMENTS];
        int size = 0;
        int content = NONE;

        boolean hasRow() {
            return content >= ROW_MARK;
        }

        boolean hasAction() {
            return content != NONE && content < ROW_MARK;
        }

        void holdRow(int sort, int n) {
            if (n < 0 || n > MOST_ELEMENTS) {
                return;
            }
            content = ROW_MARK + sort;
            size = n;
            Arrays.fill(elements, 0L);
        }

        void holdAction(int a) {
            content = a;
            size = 0;
        }

        boolean hasElement(int i) {
            return hasRow() && i >= 0 && i < size;
        }

        boolean hasStretch(int from, int n) {
            return hasRow() && from >= 0 && n >= 0 && from <= size && n <= size - from;
        }

        void keep(int i, long v) {
            if (!hasElement(i)) {
                return;
            }
            switch (content - ROW_MARK) {
                case SORT_BYTES: elements[i] = (byte) v; break;
                case SORT_SHORTS: elements[i] = (short) v; break;
                case SORT_INTS: elements[i] = (int) v; break;
                default: elements[i] = v; break;
            }
        }

        long longAt(int i) {
            return hasElement(i) ? elements[i] : 0L;
        }

        int intAt(int i) {
            return (int) longAt(i);
        }
    }

    /** The LEVELS of FACTS from one STATE, with or without BARS. */
    private static final class Levels {
        private final ActionTable table;
        private final int[] sets = new int[FACTS + 1];
        /** The LEVEL from which on all are alike. */
        private int last = 0;

        Levels(ActionTable actions) {
            table = actions;
        }

        void spread(int state, int bars) {
            last = 0;
            sets[0] = state & ~bars;
            for (int k = 0; k < FACTS; k++) {
                int next = sets[k] | (madeFrom(sets[k]) & ~bars);
                if (next == sets[k]) {
                    break;
                }
                last = k + 1;
                sets[last] = next;
            }
        }

        private int madeFrom(int set) {
            int made = 0;
            for (int a = 0; a < table.count; a++) {
                if (table.isAllowed(set, a)) {
                    made |= table.makes[a];
                }
            }
            return made;
        }

        int factsAt(int k) {
            return sets[Math.max(0, Math.min(k, last))];
        }

        /** The FACTS of which k is the FIRST LEVEL. */
        int newAt(int k) {
            return k > 0 ? factsAt(k) & ~factsAt(k - 1) : factsAt(0);
        }

        int lastLevel() {
            return last;
        }

        int firstWith(int set) {
            for (int k = 0; k <= last; k++) {
                if ((set & ~sets[k]) == 0) {
                    return k;
                }
            }
            return NONE;
        }
    }

    /** What each FACT costs from one STATE, as GUESS 1 (greatest) or 2 (summed) has it. */
    private static final class FactCosts {
        private static final int CAP = 1000000;
        /** Each round settles one FACT at least, so some 31 are enough. */
        private static final int MOST_ROUNDS = 1000;

        private final ActionTable table;
        private final int[] costs = new int[FACTS];
        /** FACTS that have a cost. */
        int known = 0;
        private boolean summed = false;

        FactCosts(ActionTable actions) {
            table = actions;
        }

        void settle(int state, boolean inSums) {
            summed = inSums;
            known = state;
            Arrays.fill(costs, 0);
            boolean changed = true;
            for (int round = 0; changed && round < MOST_ROUNDS; round++) {
                changed = false;
                for (int a = 0; a < table.count; a++) {
                    if (table.isAllowed(known, a) && lower(table.makes[a] & ~state, costBy(a))) {
                        changed = true;
                    }
                }
            }
        }

        /** What the ACTION's NEEDS and COST are together. */
        int costBy(int a) {
            return Math.min(CAP, ofAll(table.needs[a]) + table.costs[a]);
        }

        int ofAll(int set) {
            int all = 0;
            for (int fact = 0; fact < FACTS && set >>> fact != 0; fact++) {
                if ((set & (1 << fact)) == 0) {
                    continue;
                }
                if (summed) {
                    all += costs[fact];
                } else if (costs[fact] > all) {
                    all = costs[fact];
                }
            }
            return all > CAP ? CAP : all;
        }

        private boolean lower(int set, int cost) {
            boolean changed = false;
            for (int fact = 0; fact < FACTS && set >>> fact != 0; fact++) {
                int bit = 1 << fact;
                if ((set & bit) != 0 && ((known & bit) == 0 || cost < costs[fact])) {
                    costs[fact] = cost;
                    known |= bit;
                    changed = true;
                }
            }
            return changed;
        }
    }

    /** The RELAXED PLAN from one STATE to a GOAL. */
    private static final class RelaxedPlan {
        private final ActionTable table;
        private final Levels levels;
        private final FactCosts sums;
        boolean found = false;
        /** The plan's ACTIONS (bits). */
        int chosen = 0;
        int cost = 0;
        /** FACTS that were WANTED at any time. */
        private int wanted = 0;

        RelaxedPlan(ActionTable actions, Levels shared, FactCosts costs) {
            table = actions;
            levels = shared;
            sums = costs;
        }

        void make(int state, int goal) {
            chosen = 0;
            cost = 0;
            wanted = 0;
            levels.spread(state, 0);
            found = levels.firstWith(goal) != NONE;
            if (!found) {
                return;
            }
            sums.settle(state, true);
            wanted = goal & ~state;
            // An ACTION's NEEDS have lower FIRST LEVELS than what it is chosen for: one way down is enough.
            for (int k = levels.lastLevel(); k > 0; k--) {
                int here = wanted & levels.newAt(k);
                for (int fact = 0; fact < FACTS && here >>> fact != 0; fact++) {
                    if ((here & (1 << fact)) != 0) {
                        include(makerOf(fact, k), state);
                    }
                }
            }
        }

        private void include(int a, int state) {
            if (!table.has(a)) {
                return;
            }
            if ((chosen & (1 << a)) == 0) {
                chosen |= 1 << a;
                cost += table.costs[a];
            }
            wanted |= table.needs[a] & ~state;
        }

        private int makerOf(int fact, int firstLevel) {
            int below = levels.factsAt(firstLevel - 1);
            int by = NONE;
            int least = 0;
            for (int a = 0; a < table.count; a++) {
                if ((table.makes[a] & (1 << fact)) != 0 && table.isAllowed(below, a)) {
                    int together = sums.costBy(a);
                    if (by == NONE || together < least) {
                        by = a;
                        least = together;
                    }
                }
            }
            return by;
        }

        int helpfulIn(int state) {
            int nearby = found ? wanted & levels.newAt(1) : 0;
            int helpful = 0;
            for (int a = 0; a < table.count; a++) {
                if (table.isAllowed(state, a) && (table.makes[a] & nearby) != 0) {
                    helpful |= 1 << a;
                }
            }
            return helpful;
        }
    }

    /** The four GUESSES, and the step that is best by one of them. */
    private static final class Guesser {
        private final ActionTable table;
        private final FactCosts costs;
        final RelaxedPlan plan;

        Guesser(ActionTable actions, Levels levels) {
            table = actions;
            costs = new FactCosts(actions);
            plan = new RelaxedPlan(actions, levels, costs);
        }

        int guessOf(int state, int goal, int which) {
            if (which == GUESS_LEFT) {
                return Integer.bitCount(goal & ~state);
            }
            if (which == GUESS_PLAN) {
                plan.make(state, goal);
                return plan.found ? plan.cost : NONE;
            }
            costs.settle(state, which == GUESS_SUM);
            // A FACT has a cost just if it has a FIRST LEVEL.
            return (goal & ~costs.known) == 0 ? costs.ofAll(goal) : NONE;
        }

        /** The ACTION that GREEDY does next; NONE: it ends ahead. */
        int greediest(int state, int goal, int which) {
            int best = NONE;
            int least = 0;
            for (int a = 0; a < table.count; a++) {
                if (table.isAllowed(state, a)) {
                    int guessed = guessOf(table.after(state, a), goal, which);
                    if (guessed != NONE && (best == NONE || guessed < least)) {
                        best = a;
                        least = guessed;
                    }
                }
            }
            return best;
        }
    }

    /** The REACHED STATES by numbers, with a hashed table to find one's number. */
    private static final class Reach {
        private static final int SLOTS = 1024;

        private final ActionTable table;
        final int[] states = new int[MOST_STATES];
        /** A STATE's number and 1; 0: free. */
        private final int[] slots = new int[SLOTS];
        int count = 0;
        boolean tooMany = false;
        boolean fresh = false;

        Reach(ActionTable actions) {
            table = actions;
        }

        void explore(int start) {
            if (fresh) {
                return;
            }
            fresh = true;
            count = 0;
            tooMany = false;
            Arrays.fill(slots, 0);
            enter(start);
            for (int i = 0; i < MOST_STATES && i < count && !tooMany; i++) {
                for (int a = 0; a < table.count && !tooMany; a++) {
                    if (table.isAllowed(states[i], a)) {
                        enter(table.after(states[i], a));
                    }
                }
            }
        }

        private void enter(int reachedOne) {
            int slot = slotOf(reachedOne);
            if (slots[slot] != 0) {
                return;
            }
            if (count >= MOST_STATES) {
                tooMany = true;
                return;
            }
            states[count] = reachedOne;
            count++;
            slots[slot] = count;
        }

        /** Where the STATE's number stands, or, if it has none, the free slot for it. */
        private int slotOf(int wanted) {
            int slot = (wanted * 0x9E3779B1) >>> 22;
            for (int tries = 0; tries < SLOTS; tries++) {
                int entry = slots[slot];
                if (entry == 0 || states[entry - 1] == wanted) {
                    break;
                }
                slot = (slot + 1) & (SLOTS - 1);
            }
            return slot;
        }

        int find(int wanted) {
            return slots[slotOf(wanted)] - 1;
        }

        boolean hasNumber(int i) {
            return i >= 0 && i < count;
        }

        /** All FACTS that stand in one STATE or another together with these. */
        int everWith(int set) {
            int together = 0;
            for (int i = 0; i < count; i++) {
                if ((set & ~states[i]) == 0) {
                    together |= states[i];
                }
            }
            return together;
        }
    }

    /** FAR of each REACHED STATE, and BEST PLAN. Both ask that the REACHED ones are not TOO MANY. */
    private static final class Paths {
        /** A weight is COSTS times this and how many ACTIONS: no shortest row has so many. */
        private static final int COST_UNIT = 1000;

        private final ActionTable table;
        private final Reach reach;
        private final int[] weights = new int[MOST_STATES];
        /** STATES found so far, those whose weight is settled ahead, by weight. */
        private final int[] order = new int[MOST_STATES];
        /** Of a STATE whether a best row to GOAL goes by it. */
        private final boolean[] onBest = new boolean[MOST_STATES];
        private final int[] plan = new int[MOST_STATES];
        private int foundCount = 0;
        private boolean measured = false;
        private boolean chosen = false;
        boolean found = false;
        int planLength = 0;
        int planCost = 0;

        Paths(ActionTable actions, Reach states) {
            table = actions;
            reach = states;
        }

        void forget() {
            measured = false;
            chosen = false;
        }

        int costTo(int i) {
            return reach.hasNumber(i) ? weights[i] / COST_UNIT : NONE;
        }

        int stepAt(int i) {
            return found && i >= 0 && i < planLength ? plan[i] : NONE;
        }

        void measure() {
            if (measured) {
                return;
            }
            measured = true;
            Arrays.fill(weights, NONE);
            weights[0] = 0;
            order[0] = 0;
            foundCount = 1;
            for (int settled = 0; settled < MOST_STATES && settled < foundCount; settled++) {
                bringLightest(settled);
                lightenFrom(order[settled]);
            }
        }

        private void bringLightest(int settled) {
            int lightest = settled;
            for (int at = settled + 1; at < foundCount; at++) {
                if (weights[order[at]] < weights[order[lightest]]) {
                    lightest = at;
                }
            }
            int moved = order[settled];
            order[settled] = order[lightest];
            order[lightest] = moved;
        }

        private void lightenFrom(int from) {
            for (int a = 0; a < table.count; a++) {
                int to = comesTo(from, a);
                if (to == NONE) {
                    continue;
                }
                int weight = weightBy(from, a);
                if (weights[to] == NONE && foundCount < MOST_STATES) {
                    weights[to] = weight;
                    order[foundCount] = to;
                    foundCount++;
                } else if (weight < weights[to]) {
                    weights[to] = weight;
                }
            }
        }

        /** The number of what comes of an ACTION in a REACHED STATE; NONE: it MAY not be done. */
        private int comesTo(int from, int a) {
            int state = reach.states[from];
            return table.isAllowed(state, a) ? reach.find(table.after(state, a)) : NONE;
        }

        private int weightBy(int from, int a) {
            return weights[from] + table.costs[a] * COST_UNIT + 1;
        }

        void choose(int goal) {
            if (chosen) {
                return;
            }
            chosen = true;
            measure();
            int least = leastWithGoal(goal);
            found = least != NONE;
            planLength = 0;
            planCost = 0;
            if (!found) {
                return;
            }
            markBest(goal, least);
            planCost = least / COST_UNIT;
            int length = least % COST_UNIT;
            int at = 0;
            for (int i = 0; i < length && i < MOST_STATES && at != NONE; i++) {
                int a = leastOnward(at);
                if (a == NONE) {
                    break;
                }
                plan[i] = a;
                planLength = i + 1;
                at = comesTo(at, a);
            }
        }

        /** The least weight of a STATE that has GOAL; NONE: there is no such STATE. */
        private int leastWithGoal(int goal) {
            for (int at = 0; at < foundCount; at++) {
                if ((goal & ~reach.states[order[at]]) == 0) {
                    return weights[order[at]];
                }
            }
            return NONE;
        }

        /** Rows grow heavier by each ACTION, so one way back by weight sees every row's end first. */
        private void markBest(int goal, int least) {
            for (int at = foundCount - 1; at >= 0; at--) {
                int i = order[at];
                boolean ends = weights[i] == least && (goal & ~reach.states[i]) == 0;
                onBest[i] = ends || (weights[i] < least && leastOnward(i) != NONE);
            }
        }

        /** The least ACTION by which a best row goes on from a STATE; NONE. */
        private int leastOnward(int from) {
            for (int a = 0; a < table.count; a++) {
                int to = comesTo(from, a);
                if (to != NONE && weights[to] == weightBy(from, a) && onBest[to]) {
                    return a;
                }
            }
            return NONE;
        }
    }

    /** A told PLAN: the first numbers of a ROW. */
    private static final class ToldPlan {
        private final ActionTable table;
        private final int[] pairs = new int[MOST_ACTIONS * MOST_ACTIONS];
        int wrongAt = NONE;
        int endState = 0;
        int costSum = 0;

        ToldPlan(ActionTable actions) {
            table = actions;
        }

        void follow(Shelf shelf, int n, int start) {
            wrongAt = NONE;
            endState = start;
            costSum = 0;
            for (int i = 0; i < n && i < MOST_TOLD; i++) {
                int a = shelf.intAt(i);
                if (!table.has(a) || !table.isAllowed(endState, a)) {
                    wrongAt = i;
                    return;
                }
                endState = table.after(endState, a);
                costSum += table.costs[a];
            }
        }

        boolean areActions(Shelf shelf, int n) {
            for (int i = 0; i < n && i < MOST_TOLD; i++) {
                if (!table.has(shelf.intAt(i))) {
                    return false;
                }
            }
            return true;
        }

        /** MOST_ACTIONS times the first of MOST PAIR, and the second; all must be ACTIONS. */
        int commonestPair(Shelf shelf, int n) {
            Arrays.fill(pairs, 0);
            for (int i = 1; i < n && i < MOST_TOLD; i++) {
                int pair = shelf.intAt(i - 1) * MOST_ACTIONS + shelf.intAt(i);
                if (pair >= 0 && pair < pairs.length) {
                    pairs[pair]++;
                }
            }
            int commonest = 0;
            for (int pair = 1; pair < pairs.length; pair++) {
                if (pairs[pair] > pairs[commonest]) {
                    commonest = pair;
                }
            }
            return commonest;
        }
    }

    /**
     * Reads a TEXT. New ACTIONS are written behind the table's count, where they are nothing yet:
     * who called counts them in, if there was no FAULT.
     */
    private static final class TextReader {
        private static final String START_WORD = "start";
        private static final String GOAL_WORD = "goal";
        private static final String NOW_WORD = "now";
        private static final String ACT_WORD = "act";

        private final ActionTable table;
        private Shelf text = null;
        private int at = 0;
        int faultAt = NONE;
        int items = 0;
        int staged = 0;
        int startRead = 0;
        int goalRead = 0;
        int nowRead = 0;

        TextReader(ActionTable actions) {
            table = actions;
        }

        void readAll(Shelf shelf, int start, int goal, int now) {
            text = shelf;
            at = 0;
            faultAt = NONE;
            items = 0;
            staged = 0;
            startRead = start;
            goalRead = goal;
            nowRead = now;
            readItem();
            for (int n = 0; n < MOST_ELEMENTS && faultAt == NONE && at < shelf.size; n++) {
                expect(';');
                readItem();
            }
        }

        private void readItem() {
            if (faultAt != NONE) {
                return;
            }
            switch (peek()) {
                case 's': startRead = readSetItem(START_WORD); break;
                case 'g': goalRead = readSetItem(GOAL_WORD); break;
                case 'n': nowRead = readSetItem(NOW_WORD); break;
                case 'a': readAct(); break;
                default: fail(at); break;
            }
            items++;
        }

        private int readSetItem(String word) {
            expectWord(word);
            expect(' ');
            return readFacts();
        }

        private void readAct() {
            int place = at;
            expectWord(ACT_WORD);
            if (table.count + staged >= MOST_ACTIONS) {
                fail(place);
            }
            expect(' ');
            int needs = readFacts();
            expect('+');
            int makes = readFacts();
            expect('-');
            int undoes = readFacts();
            expect('$');
            int cost = readNumber(1, MOST_COST);
            if (faultAt == NONE) {
                table.write(table.count + staged, needs, makes, undoes, cost);
                staged++;
            }
        }

        /** A SET; what may stand behind it, who called expects. */
        private int readFacts() {
            if (faultAt != NONE || !isDigit(peek())) {
                return 0;
            }
            int facts = 1 << readNumber(0, FACTS - 1);
            for (int n = 0; n < MOST_ELEMENTS && faultAt == NONE && peek() == ','; n++) {
                at++;
                facts |= 1 << readNumber(0, FACTS - 1);
            }
            return facts;
        }

        /** The number of 1 or 2 digits here, or, with a FAULT, 0. */
        private int readNumber(int least, int most) {
            if (faultAt != NONE) {
                return 0;
            }
            int place = at;
            if (!isDigit(peek())) {
                fail(place);
                return 0;
            }
            int number = peek() - '0';
            at++;
            if (isDigit(peek())) {
                number = number * 10 + peek() - '0';
                at++;
            }
            if (number < least || number > most) {
                fail(place);
                return 0;
            }
            return number;
        }

        private void expectWord(String word) {
            for (int i = 0; i < word.length(); i++) {
                expect(word.charAt(i));
            }
        }

        private void expect(char letter) {
            if (faultAt != NONE) {
                return;
            }
            if (peek() == letter) {
                at++;
            } else {
                fail(at);
            }
        }

        /** The element here; behind the last one what no TEXT has. */
        private int peek() {
            return text != null && at < text.size && at < MOST_ELEMENTS ? (int) text.elements[at] : NONE;
        }

        private void fail(int place) {
            if (faultAt == NONE) {
                faultAt = place;
            }
        }

        private static boolean isDigit(int letter) {
            return letter >= '0' && letter <= '9';
        }
    }

    /** THE IMAGE. */
    private static final class Picture {
        boolean taken = false;
        int actions = 0;
        int start = 0;
        int goal = 0;
        int now = 0;
        int seed = 0;
    }
}
