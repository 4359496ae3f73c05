import java.lang.reflect.Method;
import java.lang.reflect.Modifier;
import java.util.ArrayList;
import java.util.Arrays;
import java.util.Comparator;
import java.util.HashMap;
import java.util.List;
import java.util.Map;
import java.util.Random;

/** Runs of calls by draws (always the same ones): the class must answer as the Model does. */
public final class ModelTest {
    private static final int CALLS = 500;
    private static final int MOST_GUESSED = 1000000;
    private static final String CAPPED = "a guess of 1,000,000";
    private static final List<String> RARE = List.of("restore", "image", "put", "action", "macro");

    /**
     * What each parameter is: s SHELF, t SORT, n size, i index, v element, a ACTION, k KIND, f FACT,
     * S set, c COST, w what, g GUESS, l LEVEL, r how often.
     */
    private static final Map<String, String> PARAMETERS = new HashMap<>();

    static {
        String all = "row:stn set:siv copy:ssiin element:si show:sa holds:s says:sk action:SSSc macro:aa read:s fault: "
            + "put:wS actionOf:aw may:S then:Sa level:Sl first:Sf firstOf:Sa guess:Sg relaxed:S helpful:S landmarks: "
            + "isAhead:ff reached: state:i far:i numberOf:S excluded:f best:w bestAt:i spell:s judge:sn behind:snw "
            + "mostPair:sn greedy:gr walk:r seed:v trace:i image: restore: status:w";
        for (String one : all.split(" ")) {
            int colon = one.indexOf(':');
            PARAMETERS.put(one.substring(0, colon), one.substring(colon + 1));
        }
    }

    private final Random random;
    private int breadth;
    private final PlanLandmarks real = new PlanLandmarks();
    private final Model model = new Model();
    private final List<String> told = new ArrayList<>();
    private int actions = 0;

    private ModelTest(long seed) {
        random = new Random(seed);
        int[] breadths = {3, 5, 8, 30};
        breadth = breadths[(int) (seed % breadths.length)];
    }

    public static void main(String[] args) throws Exception {
        int runs = args.length > 0 ? Integer.parseInt(args[0]) : 300;
        List<Method> methods = faceMethods();
        int wrong = 0;
        Map<String, Integer> kinds = new HashMap<>();
        for (long seed = 0; seed < runs && wrong < 3; seed++) {
            ModelTest run = new ModelTest(seed);
            if (!run.isAlike(methods, kinds)) {
                wrong++;
                System.out.println("run " + seed + ":");
                run.told.forEach(call -> System.out.println("  " + call));
            }
        }
        for (Method method : methods) {
            if (kinds.getOrDefault(method.getName(), 0) < 2) {
                wrong++;
                System.out.println(method.getName() + " was called too seldom, or always answered alike");
            }
        }
        if (kinds.getOrDefault(CAPPED, 0) == 0) {
            wrong++;
            System.out.println(CAPPED + " was never due");
        }
        System.out.println("ModelTest: " + runs + " runs, " + wrong + " wrong");
        if (wrong != 0) {
            System.exit(1);
        }
    }

    private static List<Method> faceMethods() {
        List<Method> methods = new ArrayList<>();
        for (Method method : PlanLandmarks.class.getDeclaredMethods()) {
            if (Modifier.isPublic(method.getModifiers())) {
                methods.add(method);
            }
        }
        methods.sort(Comparator.comparing(Method::getName));
        return methods;
    }

    private boolean isAlike(List<Method> methods, Map<String, Integer> kinds) throws Exception {
        Map<String, Object> firstAnswers = new HashMap<>();
        if (breadth == 30 && random.nextInt(10) == 0) {
            makeDoublingWorld();
        } else if (random.nextInt(3) != 0) {
            makeWorld();
        }
        for (int n = 0; n < CALLS; n++) {
            if (random.nextInt(15) == 0 ? !tellText() : !tellCall(methods, kinds, firstAnswers)) {
                return false;
            }
            actions = model.status(0);
            for (int what = 0; what <= 18; what++) {
                if (real.status(what) != model.status(what)) {
                    told.add("status(" + what + ") answered " + real.status(what) + ", due is " + model.status(what));
                    return false;
                }
            }
        }
        return true;
    }

    /** A world in which plans of some length come about: small sets, costs that often tie. */
    private void makeWorld() {
        int most = 3 + random.nextInt(14);
        int costs = random.nextBoolean() ? 3 : 99;
        for (int a = 0; a < most; a++) {
            int needs = few(2);
            int makes = few(2) | 1 << random.nextInt(breadth);
            int undoes = random.nextBoolean() ? needs : few(1);
            tellAction(needs, makes, undoes, 1 + random.nextInt(costs));
        }
        for (int what = 0; what < 3; what++) {
            tellPut(what, few(what == 1 ? 3 : 2));
        }
    }

    /** Most ACTIONS need almost all that those ahead make: SUMS double, up to 1,000,000 and above. */
    private void makeDoublingWorld() {
        int fact = 0;
        for (int a = 0; a < 22; a++) {
            int ahead = (1 << fact) - 1;
            int needs = random.nextInt(4) == 0 ? few(3) & ahead : ahead & ~few(1);
            tellAction(needs, 1 << fact | few(1) & ahead, few(1), 99 - random.nextInt(3));
            // Now and then there is a second way to the same FACT.
            fact += random.nextInt(8) == 0 ? 0 : 1;
        }
        tellPut(0, few(1));
        tellPut(1, 3 << Math.max(0, fact - 2 - random.nextInt(3)) | few(1));
        tellPut(2, few(1));
        breadth = Math.min(30, fact + 1);
    }

    private void tellAction(int needs, int makes, int undoes, int cost) {
        real.action(needs, makes, undoes, cost);
        model.action(needs, makes, undoes, cost);
        told.add("action[" + needs + ", " + makes + ", " + undoes + ", " + cost + "]");
        actions = model.status(0);
    }

    private void tellPut(int what, int set) {
        real.put(what, set);
        model.put(what, set);
        told.add("put[" + what + ", " + set + "]");
    }

    private int few(int most) {
        int set = 0;
        int n = random.nextInt(most + 1);
        for (int i = 0; i < n; i++) {
            set |= 1 << random.nextInt(breadth);
        }
        return set;
    }

    private boolean tellCall(List<Method> methods, Map<String, Integer> kinds, Map<String, Object> firstAnswers)
            throws Exception {
        Method method = methods.get(random.nextInt(methods.size()));
        String name = method.getName();
        boolean building = actions < 4 && random.nextInt(3) == 0;
        if (building) {
            method = PlanLandmarks.class.getMethod("action", int.class, int.class, int.class, int.class);
            name = "action";
        }
        // What changes the world comes seldom, so that much is asked of each.
        if (RARE.contains(name) && random.nextInt(5) != 0) {
            return true;
        }
        Object[] values = new Object[method.getParameterCount()];
        for (int i = 0; i < values.length; i++) {
            long v = draw(PARAMETERS.get(name).charAt(i), name);
            values[i] = method.getParameterTypes()[i] == long.class ? (Object) v : (Object) (int) v;
        }
        Object got = method.invoke(real, values);
        Object want = Model.class.getMethod(name, method.getParameterTypes()).invoke(model, values);
        Object before = firstAnswers.putIfAbsent(name, want);
        kinds.merge(name, before == null ? 1 : before.equals(want) ? 0 : 1, Integer::sum);
        if (name.equals("guess") && want.equals(MOST_GUESSED)) {
            kinds.merge(CAPPED, 1, Integer::sum);
        }
        told.add(name + Arrays.toString(values) + " answered " + got + ", due is " + want);
        return got.equals(want);
    }

    private long draw(char parameter, String name) {
        boolean odd = random.nextInt(25) == 0;
        int wild = new int[] {-1, -2, 30, 31, 161, Integer.MAX_VALUE, Integer.MIN_VALUE, 8, 100}[random.nextInt(9)];
        switch (parameter) {
            case 's': return odd ? wild : random.nextInt(4);
            case 't': return odd ? wild : random.nextInt(4);
            case 'n': return odd ? wild : name.equals("row") ? rowSize() : random.nextInt(7);
            case 'i': return odd ? wild : random.nextInt(random.nextBoolean() ? 4 : 12) - 1;
            case 'v': return random.nextInt(5) == 0 ? random.nextLong() : random.nextInt(actions + 1);
            case 'a': return odd ? wild : random.nextInt(actions + 2) - 1;
            case 'k': return odd ? wild : random.nextInt(3);
            case 'f': return odd ? wild : random.nextInt(Math.min(30, breadth + 1));
            case 'S': return odd ? wild : random.nextInt(4) == 0 ? few(2) : anySet();
            case 'c': return odd ? wild : random.nextInt(4) == 0 ? 1 + random.nextInt(99) : 1 + random.nextInt(5);
            case 'w': return odd ? wild : random.nextInt(name.equals("actionOf") || name.equals("status") ? 7 : 4);
            case 'g': return odd ? wild : random.nextInt(4);
            case 'l': return odd ? wild : random.nextInt(random.nextBoolean() ? 5 : 31);
            case 'r': return odd ? wild : random.nextInt(42);
            default: throw new IllegalStateException("parameter " + parameter);
        }
    }

    private int anySet() {
        return random.nextInt() & random.nextInt() & ((1 << breadth) - 1);
    }

    private int rowSize() {
        return random.nextInt(8) == 0 ? random.nextInt(165) : random.nextInt(9);
    }

    /** A TEXT, most often with one letter changed, left out or added, and what became of it. */
    private boolean tellText() {
        StringBuilder text = new StringBuilder();
        int items = 1 + random.nextInt(3);
        for (int n = 0; n < items; n++) {
            text.append(n == 0 ? "" : ";").append(textItem());
        }
        int changes = random.nextInt(3);
        String letters = "0123456789,;+-$ stargolnwcx";
        for (int n = 0; n < changes; n++) {
            int at = random.nextInt(text.length() + 1);
            char letter = letters.charAt(random.nextInt(letters.length()));
            switch (random.nextInt(4)) {
                case 0: text.insert(at, letter); break;
                case 1: text.setLength(at); break;
                case 2: text.delete(at, Math.min(text.length(), at + 1)); break;
                default: text.replace(at, Math.min(text.length(), at + 1), "" + letter); break;
            }
        }
        int s = random.nextInt(4);
        int sort = random.nextInt(4);
        text.setLength(Math.min(text.length(), 160));
        real.row(s, sort, text.length());
        model.row(s, sort, text.length());
        for (int i = 0; i < text.length(); i++) {
            real.set(s, i, text.charAt(i));
            model.set(s, i, text.charAt(i));
        }
        int got = real.read(s);
        int want = model.read(s);
        told.add("read of \"" + text + "\" answered " + got + " " + real.fault() + ", due is " + want + " " + model.fault());
        return got == want && real.fault() == model.fault();
    }

    private String textItem() {
        switch (random.nextInt(6)) {
            case 0: return "start " + facts();
            case 1: return "goal " + facts();
            case 2: return "now " + facts();
            default: return "act " + facts() + "+" + facts() + "-" + facts() + "$" + number(random.nextInt(102));
        }
    }

    private String facts() {
        StringBuilder all = new StringBuilder();
        int n = random.nextInt(4);
        for (int i = 0; i < n; i++) {
            int fact = random.nextInt(20) == 0 ? random.nextInt(40) : random.nextInt(breadth);
            all.append(i == 0 ? "" : ",").append(number(fact));
        }
        return all.toString();
    }

    private String number(int n) {
        return (n < 10 && random.nextInt(4) == 0 ? "0" : "") + n;
    }
}
