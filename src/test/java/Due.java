import java.io.IOException;
import java.nio.file.Files;
import java.nio.file.Path;
import java.util.LinkedHashMap;
import java.util.Map;

/** What the tests of bounds share: a sentence of the document in its own words, and the checks that stand under it. */
final class Due {
    static final int NONE = -1, UNKNOWN = -1000001, OUTSIDE = -1000002, NOT = -1000003, FULL = -1000004;
    static final int MIN = Integer.MIN_VALUE, MAX = Integer.MAX_VALUE;
    private static final Map<String, Integer> CHECKS = new LinkedHashMap<>();
    private static String sentence = "";
    private static int wrong = 0;

    private Due() {
    }

    static void sentence(String words) {
        sentence = words;
        CHECKS.putIfAbsent(words, 0);
    }

    static void due(String what, long got, long want) {
        CHECKS.merge(sentence, 1, Integer::sum);
        if (got != want) {
            wrong++;
            System.out.println("\"" + sentence + "\"\n    " + what + " is " + got + ", due is " + want);
        }
    }

    static void holds(String what, boolean so) {
        due(what, so ? 1 : 0, 1);
    }

    /** Tells how it went; a sentence that the document does not have, or that nothing stands under, is wrong, too. */
    static void end(String name) {
        String document = documentInOneLine();
        int checks = 0;
        for (Map.Entry<String, Integer> e : CHECKS.entrySet()) {
            checks += e.getValue();
            if (e.getValue() == 0 || !document.contains(e.getKey())) {
                wrong++;
                System.out.println("not in the document, or not tested: \"" + e.getKey() + "\"");
            }
        }
        System.out.println(name + ": " + CHECKS.size() + " sentences, " + checks + " checks, " + wrong + " wrong");
        if (wrong != 0) System.exit(1);
    }

    private static String documentInOneLine() {
        try {
            return Files.readString(Path.of("../shared/DOC.md")).replaceAll("\\s+", " ");
        } catch (IOException e) {
            return "";
        }
    }

    // ---- schools

    static void feed(LeastTeaches x, String text) {
        for (int i = 0; i < text.length(); i += 8) {
            int n = Math.min(8, text.length() - i);
            long bytes = 0;
            for (int k = 0; k < n; k++) bytes = bytes << 8 | text.charAt(i + k);
            x.feed(n, bytes);
        }
    }

    static LeastTeaches of(String text) {
        LeastTeaches x = new LeastTeaches();
        feed(x, text);
        int pupils = x.school();
        if (pupils < 0) due("school() of '" + text + "' with the fault at " + x.fault(), pupils, 0);
        return x;
    }

    /** One THING; PUPILS told by QUICK, BELIEF, PRIDE, LEVEL. */
    static LeastTeaches one(int... told) {
        StringBuilder s = new StringBuilder("thing;");
        for (int i = 0; i + 3 < told.length; i += 4) {
            s.append("pupil ").append(told[i]).append(' ').append(told[i + 1]).append(' ').append(told[i + 2]);
            s.append(' ').append(told[i + 3]).append(';');
        }
        return of(s.toString());
    }

    /** One THING; PUPILS of QUICK 1, BELIEF 0, PRIDE 0 told by LEVEL. */
    static LeastTeaches at(int... levels) {
        int[] told = new int[4 * levels.length];
        for (int p = 0; p < levels.length; p++) {
            told[4 * p] = 1;
            told[4 * p + 3] = levels[p];
        }
        return one(told);
    }

    /** What school() answers of a text told to a new object, and fault() behind it. */
    static void read(String text, int answer, int place) {
        LeastTeaches x = new LeastTeaches();
        feed(x, text);
        due("school() of '" + text + "'", x.school(), answer);
        due("fault() of '" + text + "'", x.fault(), place);
    }

    static void levels(String what, LeastTeaches x, int t, int... want) {
        for (int p = 0; p < want.length; p++) due(what + ": LEVEL of " + p, x.level(p, t), want[p]);
    }

    // ---- draws

    static long drawFrom(long seed) {
        return (seed * 1103515245L + 12345L) % (1L << 31);
    }

    /** DRAWS of 100 that are just that, below it, or from it on. */
    static int[] just(int n) {
        return new int[] {n, n};
    }

    static int[] below(int n) {
        return new int[] {0, n - 1};
    }

    static int[] from(int n) {
        return new int[] {n, 99};
    }

    /** A SEED from which the next DRAWS of 100 are among these. */
    static int seedOf(int[]... draws) {
        for (long seed = 0; seed < 1L << 31; seed++) {
            long s = seed;
            int k = 0;
            for (; k < draws.length; k++) {
                s = drawFrom(s);
                long drawn = s / 65536 % 100;
                if (drawn < draws[k][0] || drawn > draws[k][1]) break;
            }
            if (k == draws.length) return (int) seed;
        }
        throw new IllegalStateException("there is no such SEED");
    }

    /** A DRAWN LESSON of THING 0 in which exactly these are drawn, and its end. */
    static void drawn(String what, LeastTeaches x, int p, int end, int[]... draws) {
        drawnOf(what, x, p, 0, end, draws);
    }

    static void drawnOf(String what, LeastTeaches x, int p, int t, int end, int[]... draws) {
        int seed = seedOf(draws);
        long behind = seed;
        for (int k = 0; k < draws.length; k++) behind = drawFrom(behind);
        int kept = x.seed(seed);
        due(what + ": how it ended", x.lesson(p, t, true), end);
        due(what + ": THE SEED behind " + draws.length + " DRAWS", x.seed(Math.max(0, kept)), behind);
    }
}
