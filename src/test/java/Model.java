import java.util.ArrayDeque;
import java.util.ArrayList;
import java.util.Arrays;
import java.util.HashMap;
import java.util.List;
import java.util.Map;

/** The document's words a second time, slow and to the letter, with no short cut: what LeastTeaches is held against. */
final class Model {
    static final int NONE = -1, UNKNOWN = -1000001, OUTSIDE = -1000002, NOT = -1000003, FULL = -1000004;

    /** LEVELS by PUPIL and THING, and what else an IMAGE keeps. */
    private static final class State {
        int[][] level = new int[0][0];
        boolean guest;
        long seed;
        int turn;

        State copy() {
            State s = new State();
            s.level = new int[level.length][];
            for (int p = 0; p < level.length; p++) s.level[p] = level[p].clone();
            s.guest = guest;
            s.seed = seed;
            s.turn = turn;
            return s;
        }
    }

    private String text = "";
    private int faultAt = NONE;
    private List<int[]> people = new ArrayList<>();
    private List<Integer> leaning = new ArrayList<>();
    private State now = new State();
    private State[] images = new State[2];
    private List<int[]> logged = new ArrayList<>();
    private final Map<String, Integer> known = new HashMap<>();

    // ---- the school

    int feed(int n, long bytes) {
        if (n < 1 || n > 8) return OUTSIDE;
        if (text.length() + n > 400) return FULL;
        String all = "";
        for (int i = 0; i < 8; i++) {
            all = (char) (bytes & 0xff) + all;
            bytes >>= 8;
        }
        text += all.substring(8 - n);
        return text.length();
    }

    /** One sign after the other, by what may come next; -1 in want of a fault. */
    int school() {
        String s = text;
        text = "";
        List<Integer> things = new ArrayList<>();
        List<int[]> pupils = new ArrayList<>();
        List<int[]> levels = new ArrayList<>();
        String may = "clause";
        int[] numbers = null;
        int[] ks = null;
        int have = 0;
        int i = 0;
        while (true) {
            while (i < s.length() && s.charAt(i) == ' ') i++;
            if (i == s.length()) {
                if (may.equals("clause")) break;
                return faulty(1, i);
            }
            int j = i;
            char c = s.charAt(i);
            if (c >= 'a' && c <= 'z') {
                while (j < s.length() && s.charAt(j) >= 'a' && s.charAt(j) <= 'z') j++;
                String word = s.substring(i, j);
                if (may.equals("clause") && word.equals("thing")) {
                    if (!pupils.isEmpty() || things.size() == 6) return faulty(4, i);
                    may = "on;";
                    things.add(0);
                } else if (may.equals("clause") && word.equals("pupil")) {
                    if (pupils.size() == 6) return faulty(4, i);
                    may = "number";
                    numbers = new int[3];
                    ks = new int[things.size()];
                    have = 0;
                } else if (may.equals("on;") && word.equals("on")) {
                    may = "T";
                } else {
                    return faulty(1, i);
                }
            } else if (c >= '0' && c <= '9') {
                while (j < s.length() && s.charAt(j) >= '0' && s.charAt(j) <= '9') j++;
                if (!may.equals("T") && !may.equals("number")) return faulty(1, i);
                if (j - i > 3) return faulty(2, i);
                int v = Integer.parseInt(s.substring(i, j));
                if (may.equals("T")) {
                    int self = things.size() - 1;
                    if (v >= self) return faulty(2, i);
                    if ((things.get(self) & 1 << v) != 0) return faulty(3, i);
                    things.set(self, things.get(self) | 1 << v);
                    may = ",;";
                } else {
                    int low = have == 0 ? 1 : 0;
                    int high = have == 0 ? 5 : have < 3 ? 100 : 9;
                    if (v < low || v > high) return faulty(2, i);
                    if (have < 3) numbers[have] = v; else ks[have - 3] = v;
                    have++;
                    may = have == 3 + ks.length ? ";" : have <= 3 ? "number" : ",";
                }
            } else if (c == ',') {
                if (!may.startsWith(",")) return faulty(1, i);
                may = may.equals(",;") ? "T" : "number";
                j++;
            } else if (c == ';') {
                if (!may.endsWith(";")) return faulty(1, i);
                if (may.equals(";")) {
                    pupils.add(numbers);
                    levels.add(ks);
                }
                may = "clause";
                j++;
            } else {
                return faulty(1, i);
            }
            i = j;
        }
        faultAt = NONE;
        people = pupils;
        leaning = things;
        long seed = now.seed;
        now = new State();
        now.seed = seed;
        now.level = levels.toArray(new int[0][]);
        images = new State[2];
        logged.clear();
        known.clear();
        return people.size();
    }

    private int faulty(int number, int at) {
        faultAt = at;
        return -10 - number;
    }

    int fault() { return faultAt; }

    int count(int what) {
        return switch (what) {
            case 0 -> people.size();
            case 1 -> leaning.size();
            case 2 -> text.length();
            case 3 -> logged.size();
            case 4 -> now.guest ? 1 : 0;
            case 5 -> now.turn;
            default -> OUTSIDE;
        };
    }

    int pupil(int p, int what) {
        if (noPupil(p)) return UNKNOWN;
        if (what < 0 || what > 4) return OUTSIDE;
        if (what < 3) return people.get(p)[what];
        return what == 3 ? (int) Arrays.stream(now.level[p]).filter(l -> l == 9).count() : Arrays.stream(now.level[p]).sum();
    }

    int leans(int t) { return noThing(t) ? UNKNOWN : leaning.get(t); }

    int level(int p, int t) { return noPupil(p) || noThing(t) ? UNKNOWN : now.level[p][t]; }

    int rises(int p, int t) { return noPupil(p) || noThing(t) ? UNKNOWN : canRise(now, p, t); }

    int guest(boolean is) {
        int was = now.guest ? 1 : 0;
        now.guest = is;
        return was;
    }

    private boolean noPupil(int p) { return p < 0 || p >= people.size(); }

    private boolean noThing(int t) { return t < 0 || t >= leaning.size(); }

    private boolean noRule(int r) { return r < 0 || r > 2; }

    private int canRise(State s, int p, int t) {
        boolean low = false;
        for (int u = 0; u < leaning.size(); u++) {
            if ((leaning.get(t) & 1 << u) != 0 && s.level[p][u] < 5) low = true;
        }
        return Math.max(0, (low ? 4 : 9) - s.level[p][t]);
    }

    private void rise(State s, int p, int t, int by) {
        for (int k = 0; k < by; k++) {
            if (canRise(s, p, t) > 0) s.level[p][t]++;
        }
    }

    // ---- lessons

    private boolean happens(State s, int chance, boolean drawn) {
        if (!drawn) return chance >= 50;
        s.seed = (s.seed * 1103515245L + 12345L) % (1L << 31);
        return s.seed / 65536 % 100 < chance;
    }

    /** Of those in the class alone: they are told by their numbers. */
    private int teach(State s, List<Integer> in, int p, int t, boolean drawn) {
        Map<Integer, Integer> before = new HashMap<>();
        for (int q : in) before.put(q, s.level[q][t]);
        int mine = before.get(p);
        boolean right = happens(s, 10 * mine + 5, drawn);
        List<Integer> no = new ArrayList<>();
        for (int q : in) {
            int l = before.get(q);
            if (q != p && l > mine && happens(s, right ? 5 * (9 - l) : 10 * l, drawn)) no.add(q);
        }
        boolean some = !no.isEmpty();
        if (s.guest && mine < 9) {
            boolean says = happens(s, right ? 0 : 90, drawn);
            some = some || says;
        }
        if (!right && some) {
            rise(s, p, t, people.get(p)[0]);
            for (int q : no) rise(s, q, t, 1);
            return 0;
        }
        if (!right) {
            for (int q : in) {
                int l = before.get(q);
                if (q != p && l >= 1 && l <= 6 && happens(s, people.get(q)[1], drawn)) s.level[q][t]--;
            }
            return 1;
        }
        if (some) {
            boolean stays = happens(s, people.get(p)[2], drawn);
            if (!stays) s.level[p][t] = Math.max(0, mine - 1);
            return 2;
        }
        for (int q : in) {
            if (q == p || before.get(q) <= mine) rise(s, q, t, 1);
        }
        return 3;
    }

    private List<Integer> everybody() {
        List<Integer> all = new ArrayList<>();
        for (int p = 0; p < people.size(); p++) all.add(p);
        return all;
    }

    int lesson(int p, int t, boolean drawn) {
        return noPupil(p) || noThing(t) ? UNKNOWN : teach(now, everybody(), p, t, drawn);
    }

    int exact(int p, int t, int what) {
        if (noPupil(p) || noThing(t)) return UNKNOWN;
        if (what < 0 || what > 3) return OUTSIDE;
        int mine = now.level[p][t];
        int chance = 10 * mine + 5;
        long[] silent = {1000000, 1000000};
        List<Integer> surer = new ArrayList<>();
        for (int q = 0; q < people.size(); q++) if (q != p && now.level[q][t] > mine) surer.add(now.level[q][t]);
        if (now.guest && 9 > mine) surer.add(9);
        for (int l : surer) {
            silent[0] = silent[0] * (100 - 10 * l) / 100;
            silent[1] = silent[1] * (100 - 5 * (9 - l)) / 100;
        }
        long ifWrong = 1000000 - silent[0], ifRight = 1000000 - silent[1];
        if (what == 0) return chance;
        if (what == 1) return (int) ifWrong;
        if (what == 2) return (int) ifRight;
        long can = canRise(now, p, t);
        long a = 1000 * Math.min(can, people.get(p)[0]);
        a = a * (100 - chance) / 100;
        a = a * ifWrong / 1000000;
        long b = mine > 0 ? 1000 : 0;
        b = b * chance / 100;
        b = b * ifRight / 1000000;
        b = b * (100 - people.get(p)[2]) / 100;
        long c = can > 0 ? 1000 : 0;
        c = c * chance / 100;
        c = c * silent[1] / 1000000;
        return (int) (a - b + c);
    }

    private int stands(State s, int rule, int t, int turn) {
        if (rule == 1) return turn;
        int best = 0;
        for (int p = 0; p < people.size(); p++) {
            int l = s.level[p][t], b = s.level[best][t];
            if (rule == 0 && l < b) best = p;
            if (rule == 2 && l < 9 && (b == 9 || l > b)) best = p;
        }
        return best;
    }

    private Map<List<Integer>, Long> next;

    int behind(int rule, int t, int n, int what) {
        if (noRule(rule) || noThing(t)) return UNKNOWN;
        if (n < 0 || n > 20 || what < 0 || what >= 2 + people.size()) return OUTSIDE;
        if (people.isEmpty() || people.size() > 3) return NOT;
        Map<List<Integer>, Long> odds = new HashMap<>();
        odds.put(column(now, t), 1000000000L);
        for (int k = 0; k < n; k++) {
            next = new HashMap<>();
            for (Map.Entry<List<Integer>, Long> e : odds.entrySet()) {
                State s = withColumn(now, t, e.getKey());
                int p = stands(s, rule, t, (now.turn + k) % people.size());
                int mine = s.level[p][t];
                long right = e.getValue() * (10 * mine + 5) / 100;
                byNo(s, t, p, true, right, 0, new ArrayList<>());
                byNo(s, t, p, false, e.getValue() - right, 0, new ArrayList<>());
            }
            odds = next;
        }
        long sum = 0;
        for (Map.Entry<List<Integer>, Long> e : odds.entrySet()) {
            List<Integer> l = e.getKey();
            if (what == 0 && l.stream().allMatch(x -> x == 9)) sum += e.getValue();
            if (what == 1 && l.stream().noneMatch(x -> x == 9)) sum += e.getValue();
            if (what >= 2) sum += e.getValue() * l.get(what - 2);
        }
        return (int) (what < 2 ? sum / 1000 : sum / 1000000);
    }

    private List<Integer> column(State s, int t) {
        List<Integer> l = new ArrayList<>();
        for (int p = 0; p < people.size(); p++) l.add(s.level[p][t]);
        return l;
    }

    private State withColumn(State s, int t, List<Integer> column) {
        State c = s.copy();
        for (int p = 0; p < people.size(); p++) c.level[p][t] = column.get(p);
        return c;
    }

    /** q is who is asked next, the number of PUPILS is the GUEST; no is who said NO. */
    private void byNo(State s, int t, int p, boolean right, long odds, int q, List<Integer> no) {
        if (q > people.size()) {
            if (right && no.isEmpty()) {
                State c = s.copy();
                for (int x = 0; x < people.size(); x++) if (s.level[x][t] <= s.level[p][t]) rise(c, x, t, 1);
                add(c, t, odds);
            } else if (right) {
                long stays = odds * people.get(p)[2] / 100;
                add(s, t, stays);
                State c = s.copy();
                c.level[p][t] = Math.max(0, c.level[p][t] - 1);
                add(c, t, odds - stays);
            } else if (no.isEmpty()) {
                byBelief(s, t, p, odds, 0, new ArrayList<>());
            } else {
                State c = s.copy();
                rise(c, p, t, people.get(p)[0]);
                for (int x : no) if (x < people.size()) rise(c, x, t, 1);
                add(c, t, odds);
            }
            return;
        }
        int l = q < people.size() ? s.level[q][t] : s.guest ? 9 : NONE;
        if (q == p || l <= s.level[p][t]) {
            byNo(s, t, p, right, odds, q + 1, no);
            return;
        }
        long says = odds * (right ? 5 * (9 - l) : 10 * l) / 100;
        List<Integer> more = new ArrayList<>(no);
        more.add(q);
        byNo(s, t, p, right, says, q + 1, more);
        byNo(s, t, p, right, odds - says, q + 1, no);
    }

    private void byBelief(State s, int t, int p, long odds, int q, List<Integer> falling) {
        if (q == people.size()) {
            State c = s.copy();
            for (int x : falling) c.level[x][t]--;
            add(c, t, odds);
            return;
        }
        if (q == p || s.level[q][t] < 1 || s.level[q][t] > 6) {
            byBelief(s, t, p, odds, q + 1, falling);
            return;
        }
        long falls = odds * people.get(q)[1] / 100;
        List<Integer> more = new ArrayList<>(falling);
        more.add(q);
        byBelief(s, t, p, falls, q + 1, more);
        byBelief(s, t, p, odds - falls, q + 1, falling);
    }

    private void add(State s, int t, long odds) {
        if (odds > 0) next.merge(column(s, t), odds, Long::sum);
    }

    int up(int rule, int t) {
        if (noRule(rule) || noThing(t)) return UNKNOWN;
        return people.isEmpty() ? NOT : stands(now, rule, t, now.turn);
    }

    int run(int rule, int t, int n, boolean drawn) {
        if (noRule(rule) || noThing(t)) return UNKNOWN;
        if (n < 1 || n > 99) return OUTSIDE;
        if (people.isEmpty()) return NOT;
        for (int k = 0; k < n; k++) {
            teach(now, everybody(), stands(now, rule, t, now.turn), t, drawn);
            if (rule == 1) now.turn = (now.turn + 1) % people.size();
        }
        return (int) column(now, t).stream().filter(l -> l == 9).count();
    }

    private int tell(State s, int t) {
        int best = 0;
        for (int p = 0; p < people.size(); p++) if (s.level[p][t] > s.level[best][t]) best = p;
        int most = s.level[best][t];
        int rose = 0;
        for (int p = 0; p < people.size(); p++) {
            int was = s.level[p][t];
            if (was < most) rise(s, p, t, 1);
            if (s.level[p][t] > was) rose++;
        }
        return rose;
    }

    int master(int t) {
        if (noThing(t)) return UNKNOWN;
        return people.isEmpty() ? NOT : tell(now, t);
    }

    int summer(int f) {
        if (f < 0 || f > 9) return OUTSIDE;
        int less = 0;
        for (int[] of : now.level) {
            for (int t = 0; t < of.length; t++) {
                int was = of[t];
                of[t] = Math.max(0, was - f);
                if (of[t] < was) less++;
            }
        }
        return less;
    }

    // ---- how long

    private boolean allKnow(State s, List<Integer> in, int t) {
        for (int p : in) if (s.level[p][t] != 9) return false;
        return true;
    }

    int hours(int rule, int t) {
        if (noRule(rule) || noThing(t)) return UNKNOWN;
        if (people.isEmpty()) return NOT;
        State s = now.copy();
        for (int k = 0; k <= 300; k++) {
            if (allKnow(s, everybody(), t)) return k;
            teach(s, everybody(), stands(s, rule, t, s.turn), t, false);
            s.turn = (s.turn + 1) % people.size();
        }
        return NONE;
    }

    /** By all that can be reached, one LESSON farther each time. */
    private int fewestFrom(State from, List<Integer> in, int t) {
        String key = t + " " + in + from.guest + Arrays.deepToString(from.level);
        Integer had = known.get(key);
        if (had != null) return had;
        Map<List<Integer>, Integer> far = new HashMap<>();
        ArrayDeque<List<Integer>> open = new ArrayDeque<>();
        far.put(column(from, t), 0);
        open.add(column(from, t));
        int answer = NONE;
        while (!open.isEmpty() && answer == NONE) {
            List<Integer> c = open.poll();
            State s = withColumn(from, t, c);
            if (allKnow(s, in, t)) answer = far.get(c);
            for (int p : in) {
                State after = withColumn(from, t, c);
                teach(after, in, p, t, false);
                if (far.putIfAbsent(column(after, t), far.get(c) + 1) == null) open.add(column(after, t));
            }
        }
        known.put(key, answer);
        return answer;
    }

    int fewest(int t) {
        if (noThing(t)) return UNKNOWN;
        return people.size() > 4 ? NOT : fewestFrom(now, everybody(), t);
    }

    int row(int t, int j) {
        int n = fewest(t);
        if (n < NONE) return n;
        if (j < 0 || j >= n) return NONE;
        State s = now.copy();
        int who = NONE;
        for (int k = 0; k <= j; k++) {
            who = NONE;
            for (int p = 0; p < people.size() && who == NONE; p++) {
                State after = s.copy();
                teach(after, everybody(), p, t, false);
                if (fewestFrom(after, everybody(), t) == n - k - 1) {
                    who = p;
                    s = after;
                }
            }
        }
        return who;
    }

    int stuck(int t) {
        int n = fewest(t);
        return n < NONE ? n : n == NONE ? 1 : 0;
    }

    int worth(int t) {
        if (noThing(t)) return UNKNOWN;
        if (people.size() > 4) return NOT;
        State without = now.copy(), with = now.copy();
        without.guest = false;
        with.guest = true;
        int a = fewestFrom(without, everybody(), t), b = fewestFrom(with, everybody(), t);
        return (a == NONE ? 300 : a) - (b == NONE ? 300 : b);
    }

    int mastered(int t) {
        if (noThing(t)) return UNKNOWN;
        if (people.isEmpty()) return NOT;
        State s = now.copy();
        for (int k = 0; k <= 300; k++) {
            if (allKnow(s, everybody(), t)) return k;
            tell(s, t);
        }
        return NONE;
    }

    int pays(int p, int t, int s, int n) {
        if (noPupil(p) || noThing(t)) return UNKNOWN;
        if (s < 0 || s > 9 || n < 1 || n > 99) return OUTSIDE;
        return seeming(p, t, s, n) - seeming(p, t, 0, n);
    }

    private int seeming(int p, int t, int less, int n) {
        State s = now.copy();
        for (int k = 0; k < n; k++) {
            State seen = s.copy();
            seen.level[p][t] -= less;
            teach(s, everybody(), stands(seen, 0, t, 0), t, false);
        }
        return s.level[p][t];
    }

    private int bestLessons;
    private List<Integer> bestOrder;

    int order(int j) {
        if (people.size() > 4) return NOT;
        bestLessons = NONE;
        bestOrder = null;
        tryOrders(now.copy(), new ArrayList<>(), 0);
        if (bestOrder == null || j < NONE || j >= leaning.size()) return NONE;
        return j == NONE ? bestLessons : bestOrder.get(j);
    }

    /** Every order, the first ones first. */
    private void tryOrders(State s, List<Integer> done, int lessons) {
        if (done.size() == leaning.size()) {
            if (bestOrder == null || lessons < bestLessons) {
                bestLessons = lessons;
                bestOrder = new ArrayList<>(done);
            }
            return;
        }
        for (int t = 0; t < leaning.size(); t++) {
            if (done.contains(t)) continue;
            int n = fewestFrom(s, everybody(), t);
            if (n == NONE) continue;
            State after = s.copy();
            for (int[] of : after.level) of[t] = 9;
            done.add(t);
            tryOrders(after, done, lessons + n);
            done.remove(done.size() - 1);
        }
    }

    int classes(int t, int what) {
        if (noThing(t)) return UNKNOWN;
        if (what < 0 || what > 1) return OUTSIDE;
        if (people.size() > 5) return NOT;
        State s = now.copy();
        s.guest = false;
        int best = NONE, set = NONE;
        for (int m = 0; m < 1 << people.size(); m++) {
            List<Integer> one = new ArrayList<>(), other = new ArrayList<>();
            for (int p = 0; p < people.size(); p++) ((m >> p & 1) == 1 ? one : other).add(p);
            if (!one.contains(0) || other.isEmpty()) continue;
            int a = fewestFrom(s, one, t), b = fewestFrom(s, other, t);
            if (a == NONE || b == NONE) continue;
            if (set == NONE || Math.max(a, b) < best) {
                best = Math.max(a, b);
                set = m;
            }
        }
        return what == 0 ? set : best;
    }

    // ---- the log, draws, images

    int log(int p, int t) {
        if (noPupil(p) || noThing(t)) return UNKNOWN;
        if (logged.size() == 40) return FULL;
        logged.add(new int[] {p, t});
        return logged.size();
    }

    int clear() {
        int had = logged.size();
        logged = new ArrayList<>();
        return had;
    }

    int judge() {
        State s = now.copy();
        for (int i = 0; i < logged.size(); i++) {
            int p = logged.get(i)[0], t = logged.get(i)[1];
            for (int l : column(s, t)) if (l < s.level[p][t]) return i;
            teach(s, everybody(), p, t, false);
        }
        return NONE;
    }

    int seed(int v) {
        if (v < 0) return OUTSIDE;
        int was = (int) now.seed;
        now.seed = v;
        return was;
    }

    int keep(int i) {
        if (i != 0 && i != 1) return UNKNOWN;
        images[i] = now.copy();
        return 1;
    }

    int goBack(int i) {
        if (i != 0 && i != 1) return UNKNOWN;
        if (images[i] == null) return NOT;
        now = images[i].copy();
        return 1;
    }
}
