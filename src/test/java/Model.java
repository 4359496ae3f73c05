import java.util.ArrayList;
import java.util.Collections;
import java.util.HashMap;
import java.util.LinkedHashSet;
import java.util.List;
import java.util.Map;
import java.util.Set;
import java.util.TreeSet;
import java.util.regex.Matcher;
import java.util.regex.Pattern;

/**
 * A second telling of the document, as near to its words as may be and without regard to speed.
 * ModelTest holds the class against it. It shares no code with the class on purpose.
 */
public final class Model {
    private static final int NONE = -1;

    private record Act(Set<Integer> needs, Set<Integer> makes, Set<Integer> undoes, int cost, int first, int second) {
    }

    private record World(List<Act> acts, Set<Integer> start, Set<Integer> goal, Set<Integer> now, int seed) {
    }

    /** One of: nothing, an ACTION's number, a ROW. */
    private static final class Held {
        int action = NONE;
        int sort = NONE;
        long[] elements = new long[0];
    }

    private final List<Act> acts = new ArrayList<>();
    private Set<Integer> start = new TreeSet<>();
    private Set<Integer> goal = new TreeSet<>();
    private Set<Integer> now = new TreeSet<>();
    private int seed = 1;
    private final Held[] shelves = new Held[8];
    private final int[] refused = new int[8];
    private int fault = NONE;
    private List<Integer> trace = new ArrayList<>();
    private World image = null;

    public Model() {
        for (int s = 0; s < 8; s++) {
            shelves[s] = new Held();
        }
    }

    // ---- sets and refusals

    private static Set<Integer> setOf(int bits) {
        Set<Integer> all = new TreeSet<>();
        for (int i = 0; i < 32; i++) {
            if ((bits >> i & 1) != 0) {
                all.add(i);
            }
        }
        return all;
    }

    private static int bitsOf(Iterable<Integer> set) {
        int bits = 0;
        for (int one : set) {
            bits += 1 << one;
        }
        return bits;
    }

    private static boolean facts(int bits) {
        return bits >= 0 && bits < 1 << 30;
    }

    private int no(int refusal) {
        refused[-(refusal % 10)]++;
        return refusal;
    }

    private boolean isAct(int a) {
        return 0 <= a && a < acts.size();
    }

    private static boolean isShelf(int s) {
        return 0 <= s && s < 8;
    }

    private int rowRefusal(int s) {
        if (!isShelf(s)) {
            return -1;
        }
        if (shelves[s].action != NONE) {
            return -2;
        }
        return shelves[s].sort == NONE ? -3 : 0;
    }

    // ---- shelves

    public int row(int s, int sort, int n) {
        if (!isShelf(s)) {
            return no(-1);
        }
        if (n < 0) {
            return no(-4);
        }
        if (sort < 0 || sort > 3) {
            return no(-6);
        }
        if (n > 160) {
            return no(-7);
        }
        shelves[s] = new Held();
        shelves[s].sort = sort;
        shelves[s].elements = new long[n];
        return 1;
    }

    private static long cut(int sort, long v) {
        int dropped = 64 - (8 << sort);
        return v << dropped >> dropped;
    }

    public int set(int s, int i, long v) {
        int r = rowRefusal(s);
        if (r != 0) {
            return no(r);
        }
        if (i < 0 || i >= shelves[s].elements.length) {
            return no(-5);
        }
        shelves[s].elements[i] = cut(shelves[s].sort, v);
        return 1;
    }

    public int copy(int p, int q, int i, int j, int n) {
        if (!isShelf(p) || !isShelf(q)) {
            return no(-1);
        }
        Held from = shelves[p];
        Held to = shelves[q];
        if (from.action != NONE || to.action != NONE) {
            return no(-2);
        }
        if (from.sort != NONE && to.sort != NONE && from.sort != to.sort) {
            return no(-2);
        }
        if (from.sort == NONE || to.sort == NONE) {
            return no(-3);
        }
        if (n < 0) {
            return no(-4);
        }
        if (i < 0 || j < 0 || (long) i + n > from.elements.length || (long) j + n > to.elements.length) {
            return no(-5);
        }
        long[] ahead = from.elements.clone();
        for (int k = 0; k < n; k++) {
            to.elements[j + k] = ahead[i + k];
        }
        return 1;
    }

    public long element(int s, int i) {
        return rowRefusal(s) == 0 && i >= 0 && i < shelves[s].elements.length ? shelves[s].elements[i] : 0;
    }

    public int show(int s, int a) {
        if (!isShelf(s) || a != NONE && !isAct(a)) {
            return no(-1);
        }
        shelves[s] = new Held();
        shelves[s].action = a;
        return a == NONE ? 0 : 1;
    }

    public int holds(int s) {
        if (!isShelf(s)) {
            return NONE;
        }
        return shelves[s].sort == NONE ? shelves[s].action : 100 + shelves[s].sort;
    }

    private int kindOf(int a) {
        Act act = acts.get(a);
        if (act.first == NONE) {
            return 0;
        }
        return kindOf(act.first) == 0 && kindOf(act.second) == 0 ? 1 : 2;
    }

    private int plainOnes(int a) {
        Act act = acts.get(a);
        return act.first == NONE ? 1 : plainOnes(act.first) + plainOnes(act.second);
    }

    public int says(int s, int kind) {
        if (!isShelf(s) || kind < 0 || kind > 2) {
            return no(-1);
        }
        if (shelves[s].sort != NONE || shelves[s].action != NONE && kindOf(shelves[s].action) < kind) {
            return no(-2);
        }
        if (shelves[s].action == NONE) {
            return no(-3);
        }
        int a = shelves[s].action;
        return kind == 0 ? acts.get(a).cost : kind == 1 ? 100 * acts.get(a).first + acts.get(a).second : plainOnes(a);
    }

    // ---- actions

    public int action(int needs, int makes, int undoes, int cost) {
        if (!facts(needs) || !facts(makes) || !facts(undoes) || cost < 1 || cost > 99) {
            return no(-6);
        }
        if (acts.size() == 24) {
            return no(-7);
        }
        acts.add(new Act(setOf(needs), setOf(makes), setOf(undoes), cost, NONE, NONE));
        return acts.size() - 1;
    }

    private static Set<Integer> less(Set<Integer> a, Set<Integer> b) {
        Set<Integer> rest = new TreeSet<>(a);
        rest.removeAll(b);
        return rest;
    }

    private static Set<Integer> both(Set<Integer> a, Set<Integer> b) {
        Set<Integer> all = new TreeSet<>(a);
        all.addAll(b);
        return all;
    }

    public int macro(int a, int b) {
        if (!isAct(a) || !isAct(b)) {
            return no(-1);
        }
        Act x = acts.get(a);
        Act y = acts.get(b);
        Set<Integer> gone = less(x.undoes, x.makes);
        if (!Collections.disjoint(gone, y.needs) || x.cost + y.cost > 99) {
            return no(-6);
        }
        if (acts.size() == 24) {
            return no(-7);
        }
        Set<Integer> needs = both(x.needs, less(y.needs, x.makes));
        Set<Integer> makes = both(less(x.makes, y.undoes), y.makes);
        Set<Integer> undoes = both(less(x.undoes, y.makes), y.undoes);
        acts.add(new Act(needs, makes, undoes, x.cost + y.cost, a, b));
        return acts.size() - 1;
    }

    // ---- texts: what may stand where is asked of a regular expression, the values afterwards

    private static final String NUMBER = "[0-9][0-9]?";
    private static final String SET = "(?:" + NUMBER + "(?:," + NUMBER + ")*)?";
    private static final String ITEM = "(?:(?:start|goal|now) " + SET + "|act " + SET + "\\+" + SET + "-" + SET + "\\$" + NUMBER + ")";
    private static final Pattern TEXT = Pattern.compile(ITEM + "(?:;" + ITEM + ")*");
    private static final Pattern DIGITS = Pattern.compile("(\\$?)(" + NUMBER + ")");

    private static boolean canGoOn(String letters) {
        Matcher m = TEXT.matcher(letters);
        return m.matches() || m.hitEnd();
    }

    private int faultOf(String letters) {
        int good = 0;
        while (good < letters.length() && canGoOn(letters.substring(0, good + 1))) {
            good++;
        }
        int least = good == letters.length() && TEXT.matcher(letters).matches() ? Integer.MAX_VALUE : good;
        Matcher m = DIGITS.matcher(letters.substring(0, good));
        while (m.find()) {
            int v = Integer.parseInt(m.group(2));
            boolean may = m.group(1).isEmpty() ? v < 30 : v > 0;
            if (!may) {
                least = Math.min(least, m.start(2));
            }
        }
        int room = 24 - acts.size();
        int at = letters.substring(0, good).indexOf("act");
        while (at >= 0) {
            if (room == 0) {
                least = Math.min(least, at);
                break;
            }
            room--;
            at = letters.substring(0, good).indexOf("act", at + 1);
        }
        return least == Integer.MAX_VALUE ? NONE : least;
    }

    private static Set<Integer> readSet(String letters) {
        Set<Integer> all = new TreeSet<>();
        for (String one : letters.split(",")) {
            if (!one.isEmpty()) {
                all.add(Integer.parseInt(one));
            }
        }
        return all;
    }

    public int read(int s) {
        int r = rowRefusal(s);
        if (r != 0) {
            return no(r);
        }
        StringBuilder letters = new StringBuilder();
        for (long element : shelves[s].elements) {
            int letter = (int) element;
            letters.append(letter > 0 && letter < 128 ? (char) letter : '\u0001');
        }
        fault = faultOf(letters.toString());
        if (fault != NONE) {
            return no(-6);
        }
        String[] items = letters.toString().split(";");
        for (String item : items) {
            int blank = item.indexOf(' ');
            String word = item.substring(0, blank);
            String rest = item.substring(blank + 1);
            if (word.equals("start")) {
                start = readSet(rest);
            } else if (word.equals("goal")) {
                goal = readSet(rest);
            } else if (word.equals("now")) {
                now = readSet(rest);
            } else {
                int plus = rest.indexOf('+');
                int minus = rest.indexOf('-');
                int dollar = rest.indexOf('$');
                acts.add(new Act(readSet(rest.substring(0, plus)), readSet(rest.substring(plus + 1, minus)),
                    readSet(rest.substring(minus + 1, dollar)), Integer.parseInt(rest.substring(dollar + 1)), NONE, NONE));
            }
        }
        return items.length;
    }

    public int fault() {
        return fault;
    }

    public int put(int what, int set) {
        if (what < 0 || what > 2) {
            return no(-5);
        }
        if (!facts(set)) {
            return no(-6);
        }
        Set<Integer> old = what == 0 ? start : what == 1 ? goal : now;
        if (what == 0) {
            start = setOf(set);
        }
        if (what == 1) {
            goal = setOf(set);
        }
        if (what == 2) {
            now = setOf(set);
        }
        return bitsOf(old);
    }

    public int actionOf(int a, int what) {
        if (!isAct(a) || what < 0 || what > 6) {
            return no(-5);
        }
        Act x = acts.get(a);
        int[] all = {kindOf(a), bitsOf(x.needs), bitsOf(x.makes), bitsOf(x.undoes), x.cost, x.first, x.second};
        return all[what];
    }

    private List<Integer> allowed(Set<Integer> state) {
        List<Integer> all = new ArrayList<>();
        for (int a = 0; a < acts.size(); a++) {
            if (state.containsAll(acts.get(a).needs)) {
                all.add(a);
            }
        }
        return all;
    }

    private Set<Integer> done(Set<Integer> state, int a) {
        return both(less(state, acts.get(a).undoes), acts.get(a).makes);
    }

    public int may(int state) {
        return facts(state) ? bitsOf(allowed(setOf(state))) : no(-6);
    }

    public int then(int state, int a) {
        if (!isAct(a)) {
            return no(-1);
        }
        if (!facts(state) || !allowed(setOf(state)).contains(a)) {
            return no(-6);
        }
        return bitsOf(done(setOf(state), a));
    }

    // ---- relaxed

    private List<Set<Integer>> levels(Set<Integer> state, int bar) {
        List<Set<Integer>> all = new ArrayList<>();
        Set<Integer> here = new TreeSet<>(state);
        here.remove(bar);
        for (int k = 0; k <= 30; k++) {
            all.add(here);
            Set<Integer> next = new TreeSet<>(here);
            for (int a : allowed(here)) {
                next.addAll(acts.get(a).makes);
            }
            next.remove(bar);
            here = next;
        }
        return all;
    }

    private int firstWith(Set<Integer> state, Set<Integer> wanted) {
        return firstIn(levels(state, NONE), wanted);
    }

    private static int firstIn(List<Set<Integer>> all, Set<Integer> wanted) {
        for (int k = 0; k <= 30; k++) {
            if (all.get(k).containsAll(wanted)) {
                return k;
            }
        }
        return NONE;
    }

    public int level(int state, int k) {
        return !facts(state) || k < 0 || k > 30 ? no(-6) : bitsOf(levels(setOf(state), NONE).get(k));
    }

    public int first(int state, int fact) {
        if (fact < 0 || fact > 29) {
            return no(-11);
        }
        return facts(state) ? firstWith(setOf(state), Set.of(fact)) : no(-16);
    }

    public int firstOf(int state, int a) {
        if (!isAct(a)) {
            return no(-11);
        }
        return facts(state) ? firstWith(setOf(state), acts.get(a).needs) : no(-16);
    }

    /** Grows from below to the least solution: what each FACT costs within k ACTIONS' depth, k to 40. */
    private Map<Integer, Integer> factCosts(Set<Integer> state, boolean sums) {
        Map<Integer, Integer> costs = new HashMap<>();
        for (int fact : state) {
            costs.put(fact, 0);
        }
        for (int k = 0; k < 40; k++) {
            Map<Integer, Integer> next = new HashMap<>(costs);
            for (Act x : acts) {
                if (costs.keySet().containsAll(x.needs)) {
                    int by = together(costs, x.needs, sums, x.cost);
                    for (int fact : x.makes) {
                        next.merge(fact, by, Math::min);
                    }
                }
            }
            costs = next;
        }
        return costs;
    }

    private static int together(Map<Integer, Integer> costs, Set<Integer> facts, boolean sums, int more) {
        long all = 0;
        for (int fact : facts) {
            all = sums ? all + costs.get(fact) : Math.max(all, costs.get(fact));
        }
        return (int) Math.min(1000000, all + more);
    }

    private Set<Integer> wantedEver = new TreeSet<>();

    /** null: GUESS 3 is NONE. */
    private Set<Integer> relaxedPlan(Set<Integer> state) {
        Map<Integer, Integer> sums = factCosts(state, true);
        if (!sums.keySet().containsAll(goal)) {
            return null;
        }
        List<Set<Integer>> levels = levels(state, NONE);
        Set<Integer> wanted = less(goal, state);
        Set<Integer> looked = new TreeSet<>();
        Set<Integer> plan = new TreeSet<>();
        while (!looked.containsAll(wanted)) {
            int next = NONE;
            int greatest = NONE;
            for (int fact : less(wanted, looked)) {
                int first = firstIn(levels, Set.of(fact));
                if (first > greatest) {
                    next = fact;
                    greatest = first;
                }
            }
            int by = NONE;
            int least = Integer.MAX_VALUE;
            for (int a = 0; a < acts.size(); a++) {
                Act x = acts.get(a);
                int first = firstIn(levels, x.needs);
                if (x.makes.contains(next) && first != NONE && first < greatest) {
                    int cost = together(sums, x.needs, true, x.cost);
                    if (cost < least) {
                        by = a;
                        least = cost;
                    }
                }
            }
            looked.add(next);
            plan.add(by);
            wanted.addAll(less(acts.get(by).needs, state));
        }
        wantedEver = wanted;
        return plan;
    }

    private int guessed(Set<Integer> state, int which) {
        if (which == 0) {
            return less(goal, state).size();
        }
        if (which == 3) {
            Set<Integer> plan = relaxedPlan(state);
            return plan == null ? NONE : plan.stream().mapToInt(a -> acts.get(a).cost).sum();
        }
        Map<Integer, Integer> costs = factCosts(state, which == 2);
        return costs.keySet().containsAll(goal) ? together(costs, goal, which == 2, 0) : NONE;
    }

    public int guess(int state, int which) {
        if (which < 0 || which > 3) {
            return no(-11);
        }
        return facts(state) ? guessed(setOf(state), which) : no(-16);
    }

    public int relaxed(int state) {
        if (!facts(state)) {
            return no(-6);
        }
        Set<Integer> plan = relaxedPlan(setOf(state));
        return plan == null ? 0 : bitsOf(plan);
    }

    public int helpful(int state) {
        if (!facts(state)) {
            return no(-6);
        }
        Set<Integer> from = setOf(state);
        if (relaxedPlan(from) == null) {
            return 0;
        }
        Set<Integer> helpful = new TreeSet<>();
        for (int a : allowed(from)) {
            for (int fact : acts.get(a).makes) {
                if (wantedEver.contains(fact) && firstWith(from, Set.of(fact)) == 1) {
                    helpful.add(a);
                }
            }
        }
        return bitsOf(helpful);
    }

    public int landmarks() {
        if (!levels(start, NONE).get(30).containsAll(goal)) {
            return 0;
        }
        Set<Integer> all = new TreeSet<>();
        for (int fact = 0; fact < 30; fact++) {
            if (!levels(start, fact).get(30).containsAll(goal)) {
                all.add(fact);
            }
        }
        return bitsOf(all);
    }

    public int isAhead(int fact, int other) {
        if (fact < 0 || fact > 29 || other < 0 || other > 29) {
            return no(-1);
        }
        return fact != other && !levels(start, fact).get(30).contains(other) ? 1 : 0;
    }

    // ---- states and plans

    /** null: TOO MANY. */
    private List<Set<Integer>> reachedOnes() {
        Set<Set<Integer>> seen = new LinkedHashSet<>();
        List<Set<Integer>> all = new ArrayList<>();
        seen.add(start);
        all.add(start);
        for (int i = 0; i < all.size(); i++) {
            for (int a : allowed(all.get(i))) {
                Set<Integer> comes = done(all.get(i), a);
                if (seen.add(comes)) {
                    all.add(comes);
                }
                if (all.size() > 300) {
                    return null;
                }
            }
        }
        return all;
    }

    /** A row of ACTIONS: less is better, as BEST PLAN has it. */
    private record Way(int costs, List<Integer> actions) implements Comparable<Way> {
        @Override
        public int compareTo(Way other) {
            if (costs != other.costs) {
                return Integer.compare(costs, other.costs);
            }
            if (actions.size() != other.actions.size()) {
                return Integer.compare(actions.size(), other.actions.size());
            }
            for (int i = 0; i < actions.size(); i++) {
                if (!actions.get(i).equals(other.actions.get(i))) {
                    return Integer.compare(actions.get(i), other.actions.get(i));
                }
            }
            return 0;
        }
    }

    /** The best row of ACTIONS to each STATE; improved until none can be. */
    private Map<Set<Integer>, Way> ways(List<Set<Integer>> states) {
        Map<Set<Integer>, Way> best = new HashMap<>();
        best.put(start, new Way(0, List.of()));
        boolean better = true;
        while (better) {
            better = false;
            for (Set<Integer> state : states) {
                Way way = best.get(state);
                if (way == null) {
                    continue;
                }
                for (int a : allowed(state)) {
                    List<Integer> longer = new ArrayList<>(way.actions);
                    longer.add(a);
                    Way next = new Way(way.costs + acts.get(a).cost, longer);
                    Way known = best.get(done(state, a));
                    if (known == null || next.compareTo(known) < 0) {
                        best.put(done(state, a), next);
                        better = true;
                    }
                }
            }
        }
        return best;
    }

    private Way bestWay(List<Set<Integer>> states) {
        Way best = null;
        for (Map.Entry<Set<Integer>, Way> one : ways(states).entrySet()) {
            if (one.getKey().containsAll(goal) && (best == null || one.getValue().compareTo(best) < 0)) {
                best = one.getValue();
            }
        }
        return best;
    }

    public int reached() {
        List<Set<Integer>> all = reachedOnes();
        return all == null ? 0 : all.size();
    }

    public int state(int i) {
        List<Set<Integer>> all = reachedOnes();
        return all == null || i < 0 || i >= all.size() ? no(-5) : bitsOf(all.get(i));
    }

    public int far(int i) {
        List<Set<Integer>> all = reachedOnes();
        return all == null || i < 0 || i >= all.size() ? no(-5) : ways(all).get(all.get(i)).costs;
    }

    public int numberOf(int state) {
        List<Set<Integer>> all = reachedOnes();
        if (all == null) {
            return no(-15);
        }
        return facts(state) ? all.indexOf(setOf(state)) : no(-16);
    }

    public int excluded(int fact) {
        if (fact < 0 || fact > 29) {
            return no(-1);
        }
        List<Set<Integer>> all = reachedOnes();
        if (all == null) {
            return no(-5);
        }
        Set<Integer> rest = setOf((1 << 30) - 1);
        for (Set<Integer> state : all) {
            if (state.contains(fact)) {
                rest.removeAll(state);
            }
        }
        return bitsOf(rest);
    }

    public int best(int what) {
        List<Set<Integer>> all = reachedOnes();
        if (what < 0 || what > 1 || all == null) {
            return no(-15);
        }
        Way way = bestWay(all);
        return way == null ? NONE : what == 0 ? way.costs : way.actions.size();
    }

    public int bestAt(int i) {
        List<Set<Integer>> all = reachedOnes();
        if (all == null) {
            return no(-15);
        }
        Way way = bestWay(all);
        return way == null || i < 0 || i >= way.actions.size() ? NONE : way.actions.get(i);
    }

    public int spell(int s) {
        int r = rowRefusal(s);
        if (r != 0) {
            return no(r);
        }
        List<Set<Integer>> all = reachedOnes();
        Way way = all == null ? null : bestWay(all);
        if (way == null) {
            return no(-5);
        }
        if (way.actions.size() > shelves[s].elements.length) {
            return no(-7);
        }
        for (int i = 0; i < way.actions.size(); i++) {
            shelves[s].elements[i] = way.actions.get(i);
        }
        return way.actions.size();
    }

    private int toldRefusal(int s, int n, boolean fewOrOther) {
        int r = rowRefusal(s);
        if (r != 0) {
            return r;
        }
        if (n < 0) {
            return -4;
        }
        if (n > shelves[s].elements.length || fewOrOther) {
            return -5;
        }
        return n > 100 ? -6 : 0;
    }

    private int wrong(int s, int n) {
        Set<Integer> state = start;
        for (int i = 0; i < n; i++) {
            int a = (int) shelves[s].elements[i];
            if (!allowed(state).contains(a)) {
                return i;
            }
            state = done(state, a);
        }
        return NONE;
    }

    public int judge(int s, int n) {
        int r = toldRefusal(s, n, false);
        return r != 0 ? no(r - 10) : wrong(s, n);
    }

    public int behind(int s, int n, int what) {
        int r = toldRefusal(s, n, what < 0 || what > 3);
        if (r == 0 && wrong(s, n) != NONE) {
            r = -6;
        }
        if (r != 0) {
            return no(r);
        }
        Set<Integer> state = start;
        int costs = 0;
        for (int i = 0; i < n; i++) {
            costs += acts.get((int) shelves[s].elements[i]).cost;
            state = done(state, (int) shelves[s].elements[i]);
        }
        int[] all = {bitsOf(state), costs, state.containsAll(goal) ? 1 : 0, bitsOf(less(goal, state))};
        return all[what];
    }

    public int mostPair(int s, int n) {
        int r = toldRefusal(s, n, n < 2);
        for (int i = 0; r == 0 && i < n; i++) {
            if (!isAct((int) shelves[s].elements[i])) {
                r = -6;
            }
        }
        if (r != 0) {
            return no(r);
        }
        int best = NONE;
        int most = 0;
        for (int first = 0; first < 24; first++) {
            for (int second = 0; second < 24; second++) {
                int times = 0;
                for (int i = 0; i + 1 < n; i++) {
                    if ((int) shelves[s].elements[i] == first && (int) shelves[s].elements[i + 1] == second) {
                        times++;
                    }
                }
                if (times > most) {
                    most = times;
                    best = 100 * first + second;
                }
            }
        }
        return best;
    }

    // ---- steps

    public int greedy(int which, int n) {
        if (which < 0 || which > 3) {
            return no(-1);
        }
        if (n < 1 || n > 40) {
            return no(-6);
        }
        trace = new ArrayList<>();
        while (trace.size() < n && !now.containsAll(goal)) {
            long least = Long.MAX_VALUE;
            int best = NONE;
            for (int a : allowed(now)) {
                int guessed = guessed(done(now, a), which);
                long rank = guessed == NONE ? Long.MAX_VALUE - 1 : guessed;
                if (rank < least) {
                    least = rank;
                    best = a;
                }
            }
            if (best == NONE || least == Long.MAX_VALUE - 1) {
                break;
            }
            now = done(now, best);
            trace.add(best);
        }
        return trace.size();
    }

    public int walk(int n) {
        if (n < 1 || n > 40) {
            return no(-6);
        }
        trace = new ArrayList<>();
        for (int i = 0; i < n && !allowed(now).isEmpty(); i++) {
            long next = (seed * 1103515245L + 12345L) & 0xFFFFFFFFL;
            seed = (int) next;
            int a = allowed(now).get((int) ((next / 65536) % allowed(now).size()));
            now = done(now, a);
            trace.add(a);
        }
        return trace.size();
    }

    public int seed(int v) {
        int old = seed;
        seed = v;
        return old;
    }

    public int trace(int i) {
        return i < 0 || i >= trace.size() ? NONE : trace.get(i);
    }

    public int image() {
        image = new World(new ArrayList<>(acts), start, goal, now, seed);
        return acts.size();
    }

    public int restore() {
        if (image == null) {
            return no(-6);
        }
        acts.clear();
        acts.addAll(image.acts);
        start = image.start;
        goal = image.goal;
        now = image.now;
        seed = image.seed;
        for (Held held : shelves) {
            if (held.action >= acts.size()) {
                held.action = NONE;
            }
        }
        return acts.size();
    }

    public int status(int what) {
        if (what > 10 && what < 18) {
            return refused[what - 10];
        }
        if (what < 0 || what > 6) {
            return NONE;
        }
        int macros = 0;
        for (Act x : acts) {
            macros += x.first == NONE ? 0 : 1;
        }
        int[] all = {acts.size(), bitsOf(start), bitsOf(goal), bitsOf(now), seed, macros, trace.size()};
        return all[what];
    }
}
