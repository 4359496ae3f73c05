/** Counts answers that are not the ones due, and tells them. */
final class Check {
    private final String name;
    private int asked = 0;
    private int wrong = 0;

    Check(String name) {
        this.name = name;
    }

    void due(int promise, String call, long got, long want) {
        asked++;
        if (got != want) {
            wrong++;
            System.out.println("promise " + promise + ": " + call + " answered " + got + ", due is " + want);
        }
    }

    /** Which of the REFUSALS -1 to -7 there were, as a text: "-1 x 2 -6 x 1". */
    static String refusals(PlanLandmarks x) {
        StringBuilder all = new StringBuilder();
        for (int what = 11; what <= 17; what++) {
            int n = x.status(what);
            if (n != 0) {
                all.append(all.length() == 0 ? "" : " ").append(10 - what).append(" x ").append(n);
            }
        }
        return all.toString();
    }

    /** What was refused until now, all of it and nothing else. */
    void refused(int promise, PlanLandmarks x, String want) {
        asked++;
        String got = refusals(x);
        if (!got.equals(want)) {
            wrong++;
            System.out.println("promise " + promise + ": refused were [" + got + "], due is [" + want + "]");
        }
    }

    void fail(String what) {
        asked++;
        wrong++;
        System.out.println(what);
    }

    void end() {
        System.out.println(name + ": " + asked + " asked, " + wrong + " wrong");
        if (wrong != 0 || asked == 0) {
            System.exit(1);
        }
    }

    /** A ROW of bytes with the letters of a TEXT. */
    static void text(PlanLandmarks x, int s, String letters) {
        x.row(s, 0, letters.length());
        for (int i = 0; i < letters.length(); i++) {
            x.set(s, i, letters.charAt(i));
        }
    }

    /** Reads a TEXT by way of SHELF 7. */
    static int readText(PlanLandmarks x, String letters) {
        text(x, 7, letters);
        return x.read(7);
    }

    /** A ROW of ints. */
    static void numbers(PlanLandmarks x, int s, int... all) {
        x.row(s, 2, all.length);
        for (int i = 0; i < all.length; i++) {
            x.set(s, i, all[i]);
        }
    }

    /** A set of FACTS (or ACTIONS). */
    static int bits(int... all) {
        int set = 0;
        for (int one : all) {
            set |= 1 << one;
        }
        return set;
    }
}
