import java.io.IOException;
import java.io.UncheckedIOException;
import java.nio.file.Files;
import java.nio.file.Path;

/** Counts answers that are not the ones due, and tells them. */
final class Check {
    private static final Path DOCUMENT = Path.of("../shared/DOC.md");

    private final String name;
    private int asked = 0;
    private int wrong = 0;
    private int edges = 0;
    private String document = "";
    private String sentence = "";

    Check(String name) {
        this.name = name;
    }

    void due(int promise, String call, long got, long want) {
        asked++;
        if (got != want) {
            wrong++;
            System.out.println("promise " + promise + ": " + call + " answered " + got + ", due is " + want);
        }
    }

    /** A test of its own for one sentence of the document: it must stand there, and something must be asked of it. */
    void edge(String quoted, Runnable test) {
        sentence = quoted;
        if (!document().contains(quoted)) {
            fail("the document doesn't say: " + quoted);
        }
        int before = asked;
        try {
            test.run();
        } catch (RuntimeException thrown) {
            fail("'" + quoted + "': " + thrown);
        }
        if (asked == before) {
            fail("'" + quoted + "': nothing was asked");
        }
        edges++;
    }

    /** Of the sentence that edge() was called with. */
    void due(String call, long got, long want) {
        asked++;
        if (got != want) {
            wrong++;
            System.out.println("'" + sentence + "': " + call + " answered " + got + ", due is " + want);
        }
    }

    private String document() {
        if (document.isEmpty()) {
            try {
                document = Files.readString(DOCUMENT).replaceAll("\\s+", " ");
            } catch (IOException missing) {
                throw new UncheckedIOException(missing);
            }
        }
        return document;
    }

    /** Which of the REFUSALS -1 to -7 there were, as a text: "-1 x 2 -6 x 1". */
    static String refusals(PlanLandmarks x) {
        StringBuilder all = new StringBuilder();
        for (int what = 11; what <= 17; what++) {
            int n = x.status(what);
            if (n != 0) {
                all.append(all.length() == 0 ? "" : " ").append(10 - what).append(" x ").append(n);
            }
        }
        return all.toString();
    }

    /** What was refused until now, all of it and nothing else. */
    void refused(int promise, PlanLandmarks x, String want) {
        asked++;
        String got = refusals(x);
        if (!got.equals(want)) {
            wrong++;
            System.out.println("promise " + promise + ": refused were [" + got + "], due is [" + want + "]");
        }
    }

    void fail(String what) {
        asked++;
        wrong++;
        System.out.println(what);
    }

    void end() {
        String ofEdges = edges == 0 ? "" : edges + " sentences, ";
        System.out.println(name + ": " + ofEdges + asked + " asked, " + wrong + " wrong");
        if (wrong != 0 || asked == 0) {
            System.exit(1);
        }
    }

    /** A ROW of bytes with the letters of a TEXT. */
    static void text(PlanLandmarks x, int s, String letters) {
        x.row(s, 0, letters.length());
        for (int i = 0; i < letters.length(); i++) {
            x.set(s, i, letters.charAt(i));
        }
    }

    /** Reads a TEXT by way of SHELF 7. */
    static int readText(PlanLandmarks x, String letters) {
        text(x, 7, letters);
        return x.read(7);
    }

    /** A ROW of ints. */
    static void numbers(PlanLandmarks x, int s, int... all) {
        x.row(s, 2, all.length);
        for (int i = 0; i < all.length; i++) {
            x.set(s, i, all[i]);
        }
    }

    /** A set of FACTS (or ACTIONS). */
    static int bits(int... all) {
        int set = 0;
        for (int one : all) {
            set |= 1 << one;
        }
        return set;
    }
}
