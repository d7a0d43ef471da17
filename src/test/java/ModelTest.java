import java.util.Random;

/** Many runs of calls, ordinary and wild, on LeastTeaches and on Model at once: their answers must be the same. */
public final class ModelTest {
    private static long calls = 0;
    private static int wrong = 0;
    private static String trace = "";

    private final LeastTeaches is = new LeastTeaches();
    private final Model due = new Model();
    private final Random random;

    private ModelTest(long seed) {
        random = new Random(seed);
    }

    private void same(String call, int got, int want) {
        calls++;
        trace += call + " = " + want + "\n";
        if (got != want) {
            wrong++;
            if (wrong < 4) System.out.println(trace + "  but answered " + got);
        }
    }

    private int upTo(int n) {
        return random.nextInt(n + 1);
    }

    /** Mostly a number that there is, seldom one that there is not. */
    private int among(int n) {
        if (n > 0 && random.nextInt(30) != 0) return random.nextInt(n);
        int[] wild = {-1, n, n + 1, -2, Integer.MIN_VALUE, Integer.MAX_VALUE, 6, 7, 32, 64};
        return wild[random.nextInt(wild.length)];
    }

    private int between(int low, int high) {
        if (random.nextInt(12) != 0) return low + random.nextInt(high - low + 1);
        int[] wild = {low, high, low - 1, high + 1, Integer.MIN_VALUE, Integer.MAX_VALUE};
        return wild[random.nextInt(wild.length)];
    }

    private String blanks() {
        return random.nextInt(8) == 0 ? "  ".substring(upTo(2)) : "";
    }

    String school(int pupils, int things) {
        StringBuilder s = new StringBuilder(blanks());
        int ground = upTo(9);
        for (int t = 0; t < things; t++) {
            s.append("thing").append(blanks());
            String sep = random.nextBoolean() ? "on " : "on";
            for (int u = 0; u < t; u++) {
                if (random.nextInt(4) == 0) {
                    s.append(sep.startsWith("on") && s.charAt(s.length() - 1) != ' ' ? " " : "").append(sep).append(u).append(blanks());
                    sep = ",";
                }
            }
            s.append(';').append(blanks());
        }
        for (int p = 0; p < pupils; p++) {
            s.append("pupil ").append(1 + upTo(4)).append(' ').append(upTo(100)).append(' ').append(upTo(100)).append(' ');
            for (int t = 0; t < things; t++) {
                int k = random.nextBoolean() ? upTo(9) : Math.min(9, ground + upTo(2));
                s.append(t > 0 ? "," : "").append(blanks()).append(k);
            }
            s.append(';').append(blanks());
        }
        return s.toString();
    }

    private String broken(String text) {
        StringBuilder s = new StringBuilder(text);
        String[] bits = {"thing", "pupil", "on", ";", ",", " ", "0", "9", "100", "101", "1000", "0007", "00", "a", "A", "\u0000", "\u00e9", "\u00ff", "-", "\t"};
        for (int k = 1 + upTo(1); k > 0; k--) {
            int at = upTo(s.length());
            String bit = bits[random.nextInt(bits.length)];
            switch (random.nextInt(4)) {
                case 0: s.insert(at, bit); break;
                case 1: s.replace(at, Math.min(s.length(), at + 1), bit); break;
                case 2: s.delete(at, Math.min(s.length(), at + 1 + upTo(6))); break;
                default: s.setLength(at); break;
            }
        }
        return s.toString();
    }

    void tell(String text) {
        for (int i = 0; i < text.length(); ) {
            int n = Math.min(text.length() - i, 1 + random.nextInt(8));
            long v = n < 8 ? random.nextLong() : 0;
            for (int k = 0; k < n; k++) v = v << 8 | text.charAt(i + k);
            same("feed(" + n + ", " + v + ")", is.feed(n, v), due.feed(n, v));
            i += n;
        }
        same("school() of '" + text + "'", is.school(), due.school());
        same("fault()", is.fault(), due.fault());
    }

    private void call(int which) {
        int p = among(due.count(0)), t = among(due.count(1)), rule = among(3);
        boolean b = random.nextBoolean();
        switch (which) {
            case 0: { int n = between(1, 8); long v = random.nextLong(); same("feed(" + n + ", " + v + ")", is.feed(n, v), due.feed(n, v)); break; }
            case 1: same("fault()", is.fault(), due.fault()); break;
            case 2: { int w = between(0, 5); same("count(" + w + ")", is.count(w), due.count(w)); break; }
            case 3: { int w = between(0, 4); same("pupil(" + p + ", " + w + ")", is.pupil(p, w), due.pupil(p, w)); break; }
            case 4: same("leans(" + t + ")", is.leans(t), due.leans(t)); break;
            case 5: same("level(" + p + ", " + t + ")", is.level(p, t), due.level(p, t)); break;
            case 6: same("rises(" + p + ", " + t + ")", is.rises(p, t), due.rises(p, t)); break;
            case 7: same("guest(" + b + ")", is.guest(b), due.guest(b)); break;
            case 8: case 9: same("lesson(" + p + ", " + t + ", " + b + ")", is.lesson(p, t, b), due.lesson(p, t, b)); break;
            case 10: case 11: { int w = between(0, 3); same("exact(" + p + ", " + t + ", " + w + ")", is.exact(p, t, w), due.exact(p, t, w)); break; }
            case 12: { int n = between(0, 20), w = between(0, 1 + due.count(0)); same("behind(" + rule + ", " + t + ", " + n + ", " + w + ")", is.behind(rule, t, n, w), due.behind(rule, t, n, w)); break; }
            case 13: same("up(" + rule + ", " + t + ")", is.up(rule, t), due.up(rule, t)); break;
            case 14: { int n = between(1, random.nextInt(4) == 0 ? 99 : 4); same("run(" + rule + ", " + t + ", " + n + ", " + b + ")", is.run(rule, t, n, b), due.run(rule, t, n, b)); break; }
            case 15: same("master(" + t + ")", is.master(t), due.master(t)); break;
            case 16: { int f = between(0, random.nextInt(4) == 0 ? 9 : 4); same("summer(" + f + ")", is.summer(f), due.summer(f)); break; }
            case 17: same("hours(" + rule + ", " + t + ")", is.hours(rule, t), due.hours(rule, t)); break;
            case 18: same("fewest(" + t + ")", is.fewest(t), due.fewest(t)); break;
            case 19: case 20: { int j = between(0, 12); same("row(" + t + ", " + j + ")", is.row(t, j), due.row(t, j)); break; }
            case 21: same("stuck(" + t + ")", is.stuck(t), due.stuck(t)); break;
            case 22: same("worth(" + t + ")", is.worth(t), due.worth(t)); break;
            case 23: same("mastered(" + t + ")", is.mastered(t), due.mastered(t)); break;
            case 24: { int s = between(0, 9), n = between(1, random.nextInt(4) == 0 ? 99 : 4); same("pays(" + p + ", " + t + ", " + s + ", " + n + ")", is.pays(p, t, s, n), due.pays(p, t, s, n)); break; }
            case 25: { int j = between(-1, due.count(1)); same("order(" + j + ")", is.order(j), due.order(j)); break; }
            case 26: { int w = between(0, 1); same("classes(" + t + ", " + w + ")", is.classes(t, w), due.classes(t, w)); break; }
            case 27: case 28: case 29: same("log(" + p + ", " + t + ")", is.log(p, t), due.log(p, t)); break;
            case 30: if (random.nextInt(9) == 0) same("clear()", is.clear(), due.clear()); break;
            case 31: same("judge()", is.judge(), due.judge()); break;
            case 32: { int v = random.nextInt(); same("seed(" + v + ")", is.seed(v), due.seed(v)); break; }
            case 33: { int i = among(2); same("keep(" + i + ")", is.keep(i), due.keep(i)); break; }
            default: { int i = among(2); same("goBack(" + i + ")", is.goBack(i), due.goBack(i)); break; }
        }
    }

    private void all() {
        for (int w = 0; w < 6; w++) same("count(" + w + ")", is.count(w), due.count(w));
        for (int p = 0; p < due.count(0); p++) {
            for (int t = 0; t < due.count(1); t++) same("level(" + p + ", " + t + ")", is.level(p, t), due.level(p, t));
        }
        int seed = random.nextInt(1 << 30);
        same("seed(" + seed + ")", is.seed(seed), due.seed(seed));
    }

    /** More PUPILS and THINGS make the model slow: dear calls are for small schools, the others for all. */
    private void go(int most, int n) {
        for (int round = 0; round < 3; round++) {
            int pupils = upTo(most), things = random.nextInt(6) == 0 ? upTo(6) : upTo(4);
            String text = school(pupils, things);
            if (text.length() > 400) text = "";
            if (random.nextInt(3) == 0) text = broken(text);
            tell(text.length() > 400 ? text.substring(0, 400) : text);
            for (int k = 0; k < n; k++) {
                int which = random.nextInt(35);
                boolean dear = which == 25 && due.count(1) > 4 || due.count(0) > 3 && which >= 18 && which <= 26 && which != 23 && which != 24;
                if (which == 0 && random.nextInt(5) != 0) continue;
                if (!dear || due.count(0) > 5 || random.nextInt(6) == 0) call(which);
                if (random.nextInt(25) == 0) all();
            }
            int left = due.count(2);
            if (left > 0) {
                same("school()", is.school(), due.school());
                same("fault()", is.fault(), due.fault());
            }
        }
        all();
    }

    public static void main(String[] args) {
        long from = args.length > 0 ? Long.parseLong(args[0]) : 1;
        long runs = args.length > 1 ? Long.parseLong(args[1]) : 600;
        for (long s = from; s < from + runs; s++) {
            trace = "seed " + s + "\n";
            new ModelTest(s).go(s % 4 == 0 ? 6 : 3, 110);
        }
        trace = "";
        for (long s = from; s < from + 20 * runs; s++) {
            ModelTest m = new ModelTest(s);
            trace = "";
            m.tell(m.broken(m.school(m.upTo(3), m.upTo(4))));
        }
        System.out.println("ModelTest: " + calls + " calls, " + wrong + " wrong");
        if (wrong != 0) System.exit(1);
    }
}
