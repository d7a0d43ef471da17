import java.util.Arrays;

/** A class of pupils in which the one who knows least stands up, and all learn by it. */
public final class LeastTeaches {
    public static final int NONE = -1, UNKNOWN = -1000001, OUTSIDE = -1000002, NOT = -1000003, FULL = -1000004;

    private static final int MOST = 6;
    private static final int ALL = (1 << MOST) - 1;
    private static final int KNOWN = 9;
    private static final int CAPPED = 4;
    private static final int SEARCHED = 4;
    private static final int PARTED = 5;
    private static final int FORESEEN = 3;
    private static final int TEXT = 400;
    private static final int LOGGED = 40;
    private static final int PATIENCE = 300;
    private static final int IMAGES = 2;
    private static final int RULES = 3;
    private static final int MILLION = 1000000;
    private static final int BILLION = 1000000000;
    private static final int[] TENS = {1, 10, 100, 1000, 10000};

    private final Reader reader = new Reader();
    private School told = new School();
    private School draft = new School();
    private final Standing now = new Standing();
    private final Standing tried = new Standing();
    private final Standing image0 = new Standing();
    private final Standing image1 = new Standing();
    private int keptSet;
    private final int[] logged = new int[LOGGED];
    private int logSize;
    private final Bench bench = new Bench();
    private final Odds odds = new Odds();
    private final Search alone = new Search();
    private final Search withGuest = new Search();

    public LeastTeaches() {
    }

    // ---- the school

    public int feed(int n, long bytes) {
        if (n < 1 || n > 8) {
            return OUTSIDE;
        }
        if (reader.length + n > TEXT) {
            return FULL;
        }
        for (int i = n - 1; i >= 0; i--) {
            reader.add((int) (bytes >>> (8 * i)) & 255);
        }
        return reader.length;
    }

    public int school() {
        int fault = reader.read(draft);
        if (fault != 0) {
            return -10 - fault;
        }
        School old = told;
        told = draft;
        draft = old;
        now.begin(told.first);
        keptSet = 0;
        logSize = 0;
        alone.forget();
        withGuest.forget();
        return told.pupils;
    }

    public int fault() {
        return reader.faultAt;
    }

    public int count(int what) {
        switch (what) {
            case 0: return told.pupils;
            case 1: return told.things;
            case 2: return reader.length;
            case 3: return logSize;
            case 4: return now.visited ? 1 : 0;
            case 5: return now.turn;
            default: return OUTSIDE;
        }
    }

    public int pupil(int p, int what) {
        if (!isPupil(p)) {
            return UNKNOWN;
        }
        switch (what) {
            case 0: return told.quick[p];
            case 1: return told.belief[p];
            case 2: return told.pride[p];
            case 3: return knownThings(p);
            case 4: return allLevels(p);
            default: return OUTSIDE;
        }
    }

    public int leans(int t) {
        return isThing(t) ? told.leaning[t] : UNKNOWN;
    }

    public int level(int p, int t) {
        return isPupil(p) && isThing(t) ? now.levels[p * MOST + t] : UNKNOWN;
    }

    public int rises(int p, int t) {
        if (!isPupil(p) || !isThing(t)) {
            return UNKNOWN;
        }
        sitAll(t);
        return bench.room(p);
    }

    public int guest(boolean is) {
        int was = now.visited ? 1 : 0;
        now.visited = is;
        return was;
    }

    // ---- lessons

    public int lesson(int p, int t, boolean drawn) {
        if (!isPupil(p) || !isThing(t)) {
            return UNKNOWN;
        }
        sitAll(t);
        int end = bench.hold(p, drawn);
        bench.leave(now, t);
        return end;
    }

    public int exact(int p, int t, int what) {
        if (!isPupil(p) || !isThing(t)) {
            return UNKNOWN;
        }
        sitAll(t);
        switch (what) {
            case 0: return bench.rightChance(p);
            case 1: return bench.someNo(p, false);
            case 2: return bench.someNo(p, true);
            case 3: return bench.mean(p);
            default: return OUTSIDE;
        }
    }

    public int behind(int rule, int t, int n, int what) {
        if (!isRule(rule) || !isThing(t)) {
            return UNKNOWN;
        }
        if (n < 0 || n > 20 || what < 0 || what > 1 + told.pupils) {
            return OUTSIDE;
        }
        if (told.pupils < 1 || told.pupils > FORESEEN) {
            return NOT;
        }
        sitAll(t);
        odds.follow(bench, rule, now.turn, n);
        switch (what) {
            case 0: return odds.thatAllKnow(told.pupils);
            case 1: return odds.thatNobodyKnows(told.pupils);
            default: return odds.meanLevel(told.pupils, what - 2);
        }
    }

    public int up(int rule, int t) {
        if (!isRule(rule) || !isThing(t)) {
            return UNKNOWN;
        }
        if (told.pupils < 1) {
            return NOT;
        }
        sitAll(t);
        return bench.chosen(rule, now.turn);
    }

    public int run(int rule, int t, int n, boolean drawn) {
        if (!isRule(rule) || !isThing(t)) {
            return UNKNOWN;
        }
        if (n < 1 || n > 99) {
            return OUTSIDE;
        }
        if (told.pupils < 1) {
            return NOT;
        }
        sitAll(t);
        for (int k = 0; k < n; k++) {
            bench.hold(bench.chosen(rule, now.turn), drawn);
            if (rule == 1) {
                now.turn = bench.after(now.turn);
            }
        }
        bench.leave(now, t);
        return bench.knowing();
    }

    public int master(int t) {
        if (!isThing(t)) {
            return UNKNOWN;
        }
        if (told.pupils < 1) {
            return NOT;
        }
        sitAll(t);
        int rose = bench.tell();
        bench.leave(now, t);
        return rose;
    }

    public int summer(int f) {
        if (f < 0 || f > KNOWN) {
            return OUTSIDE;
        }
        int less = 0;
        for (int p = 0; p < told.pupils; p++) {
            for (int t = 0; t < told.things; t++) {
                int was = now.levels[p * MOST + t];
                int is = was > f ? was - f : 0;
                now.levels[p * MOST + t] = is;
                less += is < was ? 1 : 0;
            }
        }
        return less;
    }

    // ---- how long

    public int hours(int rule, int t) {
        if (!isRule(rule) || !isThing(t)) {
            return UNKNOWN;
        }
        if (told.pupils < 1) {
            return NOT;
        }
        sitAll(t);
        int turn = now.turn;
        for (int k = 0; k <= PATIENCE; k++) {
            if (bench.knowing() == bench.size) {
                return k;
            }
            bench.hold(bench.chosen(rule, turn), false);
            turn = bench.after(turn);
        }
        return NONE;
    }

    public int fewest(int t) {
        if (!isThing(t)) {
            return UNKNOWN;
        }
        if (told.pupils > SEARCHED) {
            return NOT;
        }
        return fewestOfAll(now, t, now.visited);
    }

    public int row(int t, int j) {
        int lessons = fewest(t);
        if (lessons < NONE) {
            return lessons;
        }
        if (j < 0 || j >= lessons) {
            return NONE;
        }
        sitAll(t);
        return searchFor(now.visited).standsUp(bench, j);
    }

    public int stuck(int t) {
        int lessons = fewest(t);
        if (lessons < NONE) {
            return lessons;
        }
        return lessons == NONE ? 1 : 0;
    }

    public int worth(int t) {
        if (!isThing(t)) {
            return UNKNOWN;
        }
        if (told.pupils > SEARCHED) {
            return NOT;
        }
        int without = fewestOfAll(now, t, false);
        int with = fewestOfAll(now, t, true);
        return (without == NONE ? PATIENCE : without) - (with == NONE ? PATIENCE : with);
    }

    public int mastered(int t) {
        if (!isThing(t)) {
            return UNKNOWN;
        }
        if (told.pupils < 1) {
            return NOT;
        }
        sitAll(t);
        for (int k = 0; k <= PATIENCE; k++) {
            if (bench.knowing() == bench.size) {
                return k;
            }
            bench.tell();
        }
        return NONE;
    }

    public int pays(int p, int t, int s, int n) {
        if (!isPupil(p) || !isThing(t)) {
            return UNKNOWN;
        }
        if (s < 0 || s > 9 || n < 1 || n > 99) {
            return OUTSIDE;
        }
        return levelBehind(p, t, s, n) - levelBehind(p, t, 0, n);
    }

    public int order(int j) {
        if (told.pupils > SEARCHED) {
            return NOT;
        }
        int lessons = lessonsAsTold();
        if (lessons == NONE || j < NONE || j >= told.things) {
            return NONE;
        }
        return j == NONE ? lessons : j;
    }

    public int classes(int t, int what) {
        if (!isThing(t)) {
            return UNKNOWN;
        }
        if (what < 0 || what > 1) {
            return OUTSIDE;
        }
        if (told.pupils > PARTED) {
            return NOT;
        }
        int whole = (1 << told.pupils) - 1;
        int bestSet = NONE;
        int shortest = NONE;
        for (int first = 1; first < whole; first += 2) {
            int one = fewestOfPart(first, t);
            int other = one == NONE ? NONE : fewestOfPart(whole - first, t);
            int longer = Math.max(one, other);
            if (other != NONE && (bestSet == NONE || longer < shortest)) {
                bestSet = first;
                shortest = longer;
            }
        }
        return what == 0 ? bestSet : shortest;
    }

    // ---- the log

    public int log(int p, int t) {
        if (!isPupil(p) || !isThing(t)) {
            return UNKNOWN;
        }
        if (logSize >= LOGGED) {
            return FULL;
        }
        logged[logSize] = p * MOST + t;
        logSize++;
        return logSize;
    }

    public int clear() {
        int had = logSize;
        logSize = 0;
        return had;
    }

    public int judge() {
        tried.take(now);
        for (int i = 0; i < logSize; i++) {
            int p = logged[i] / MOST;
            int t = logged[i] % MOST;
            bench.sit(told, tried, ALL, t);
            if (bench.at[p] > bench.at[bench.least(NONE, 0)]) {
                return i;
            }
            bench.hold(p, false);
            bench.leave(tried, t);
        }
        return NONE;
    }

    // ---- draws, images

    public int seed(int v) {
        if (v < 0) {
            return OUTSIDE;
        }
        int was = now.drawnFrom;
        now.drawnFrom = v;
        return was;
    }

    public int keep(int i) {
        if (i < 0 || i >= IMAGES) {
            return UNKNOWN;
        }
        imageOf(i).take(now);
        keptSet |= 1 << i;
        return 1;
    }

    public int goBack(int i) {
        if (i < 0 || i >= IMAGES) {
            return UNKNOWN;
        }
        if ((keptSet >> i & 1) == 0) {
            return NOT;
        }
        now.take(imageOf(i));
        return 1;
    }

    // ---- what several calls need

    private boolean isPupil(int p) {
        return p >= 0 && p < told.pupils;
    }

    private boolean isThing(int t) {
        return t >= 0 && t < told.things;
    }

    private boolean isRule(int rule) {
        return rule >= 0 && rule < RULES;
    }

    private int knownThings(int p) {
        int known = 0;
        for (int t = 0; t < told.things; t++) {
            known += now.levels[p * MOST + t] == KNOWN ? 1 : 0;
        }
        return known;
    }

    private int allLevels(int p) {
        int sum = 0;
        for (int t = 0; t < told.things; t++) {
            sum += now.levels[p * MOST + t];
        }
        return sum;
    }

    private Standing imageOf(int i) {
        return i == 0 ? image0 : image1;
    }

    private Search searchFor(boolean visited) {
        return visited ? withGuest : alone;
    }

    private void sitAll(int t) {
        bench.sit(told, now, ALL, t);
    }

    private int fewestOfAll(Standing from, int t, boolean visited) {
        bench.sit(told, from, ALL, t);
        bench.visited = visited;
        return bench.isBarred() ? NONE : searchFor(visited).lessonsFrom(bench);
    }

    private int fewestOfPart(int set, int t) {
        bench.sit(told, now, set, t);
        bench.visited = false;
        return bench.isBarred() ? NONE : alone.lessonsFrom(bench);
    }

    private int levelBehind(int p, int t, int less, int n) {
        sitAll(t);
        for (int k = 0; k < n; k++) {
            bench.hold(bench.least(p, less), false);
        }
        return bench.at[p];
    }

    /**
     * The LESSONS in all, THING by THING as they were told. That order is always the best: a THING leans only on
     * those told ahead, so it can be, if any can; and as LEVEL 9 is never lost, what a THING leans on says whether
     * it can be finished, never how fast: all orders that can be take equally long, and of like ones this is the first.
     */
    private int lessonsAsTold() {
        tried.take(now);
        int lessons = 0;
        for (int t = 0; t < told.things; t++) {
            int more = fewestOfAll(tried, t, now.visited);
            if (more == NONE) {
                return NONE;
            }
            lessons += more;
            for (int p = 0; p < told.pupils; p++) {
                tried.levels[p * MOST + t] = KNOWN;
            }
        }
        return lessons;
    }

    /** What the text tells and no lesson changes; and the LEVELS that it begins with. */
    private static final class School {
        int things;
        int pupils;
        final int[] leaning = new int[MOST];
        final int[] quick = new int[MOST];
        final int[] belief = new int[MOST];
        final int[] pride = new int[MOST];
        final int[] first = new int[MOST * MOST];

        /** The highest LEVEL to which that PUPIL may rise in that THING. */
        int topOf(int[] levels, int p, int t) {
            for (int u = 0; u < t; u++) {
                if ((leaning[t] >> u & 1) == 1 && levels[p * MOST + u] <= CAPPED) {
                    return CAPPED;
                }
            }
            return KNOWN;
        }
    }

    /** What changes as lessons go on: what an IMAGE keeps. */
    private static final class Standing {
        final int[] levels = new int[MOST * MOST];
        boolean visited;
        int drawnFrom;
        int turn;

        void begin(int[] first) {
            System.arraycopy(first, 0, levels, 0, levels.length);
            visited = false;
            turn = 0;
        }

        void take(Standing other) {
            System.arraycopy(other.levels, 0, levels, 0, levels.length);
            visited = other.visited;
            drawnFrom = other.drawnFrom;
            turn = other.turn;
        }
    }

    /** Reads THE TEXT, token by token; start and kind are those of the token not yet taken. */
    private static final class Reader {
        static final int END = 0;
        static final int WORD = 1;
        static final int NUMBER = 2;
        static final int SIGN = 3;

        final byte[] text = new byte[TEXT];
        int length;
        int faultAt = NONE;
        private int faultNumber;
        private School school;
        private int place;
        private int start;
        private int kind;

        void add(int sign) {
            if (length < TEXT) {
                text[length] = (byte) sign;
                length++;
            }
        }

        /** Empties THE TEXT into a school: the number of its FAULT, or 0. */
        int read(School into) {
            school = into;
            school.things = 0;
            school.pupils = 0;
            faultNumber = 0;
            faultAt = NONE;
            place = 0;
            advance();
            for (int clauses = 0; clauses < TEXT && kind != END && faultNumber == 0; clauses++) {
                if (isWord("thing")) {
                    readThing();
                } else if (isWord("pupil")) {
                    readPupil();
                } else {
                    refuse(1, start);
                }
            }
            length = 0;
            return faultNumber;
        }

        private void readThing() {
            if (school.things >= MOST || school.pupils > 0) {
                refuse(4, start);
                return;
            }
            advance();
            int set = isWord("on") ? readLeaning() : 0;
            takeSign(';');
            if (faultNumber == 0) {
                school.leaning[school.things] = set;
                school.things++;
            }
        }

        private int readLeaning() {
            int set = 0;
            boolean more = true;
            for (int k = 0; k <= MOST && more; k++) {
                advance();
                int at = start;
                int t = takeNumber(0, school.things - 1);
                if (faultNumber == 0 && (set >> t & 1) == 1) {
                    refuse(3, at);
                }
                set |= 1 << t;
                more = faultNumber == 0 && isSign(',');
            }
            return set;
        }

        private void readPupil() {
            int p = school.pupils;
            if (p >= MOST) {
                refuse(4, start);
                return;
            }
            advance();
            school.quick[p] = takeNumber(1, 5);
            school.belief[p] = takeNumber(0, 100);
            school.pride[p] = takeNumber(0, 100);
            for (int t = 0; t < school.things; t++) {
                if (t > 0) {
                    takeSign(',');
                }
                school.first[p * MOST + t] = takeNumber(0, KNOWN);
            }
            takeSign(';');
            school.pupils = p + 1;
        }

        /** The NUMBER that stands there; 0 where it is at fault, or something ahead of it was. */
        private int takeNumber(int low, int high) {
            if (faultNumber != 0) {
                return 0;
            }
            if (kind != NUMBER) {
                refuse(1, start);
                return 0;
            }
            int value = 0;
            for (int i = start; i < place && i < start + 3; i++) {
                value = value * 10 + text[i] - '0';
            }
            if (place - start > 3 || value < low || value > high) {
                refuse(2, start);
                return 0;
            }
            advance();
            return value;
        }

        private void takeSign(int sign) {
            if (faultNumber != 0) {
                return;
            }
            if (!isSign(sign)) {
                refuse(1, start);
                return;
            }
            advance();
        }

        private boolean isSign(int sign) {
            return kind == SIGN && text[start] == sign;
        }

        private boolean isWord(String word) {
            if (kind != WORD || place - start != word.length()) {
                return false;
            }
            for (int i = 0; i < word.length(); i++) {
                if (text[start + i] != word.charAt(i)) {
                    return false;
                }
            }
            return true;
        }

        private void refuse(int number, int at) {
            if (faultNumber == 0) {
                faultNumber = number;
                faultAt = at;
            }
        }

        private void advance() {
            while (place < length && text[place] == ' ') {
                place++;
            }
            start = place;
            kind = kindAt(place);
            if (kind == SIGN) {
                place++;
            } else if (kind != END) {
                while (place < length && kindAt(place) == kind) {
                    place++;
                }
            }
        }

        private int kindAt(int i) {
            if (i >= length) {
                return END;
            }
            if (text[i] >= 'a' && text[i] <= 'z') {
                return WORD;
            }
            return text[i] >= '0' && text[i] <= '9' ? NUMBER : SIGN;
        }
    }

    /** Those who sit together in a LESSON of one THING, by seats in the order of their numbers. */
    private static final class Bench {
        int size;
        int set;
        boolean visited;
        private int drawnFrom;
        final int[] who = new int[MOST];
        final int[] at = new int[MOST];
        final int[] top = new int[MOST];
        final int[] quick = new int[MOST];
        final int[] belief = new int[MOST];
        final int[] pride = new int[MOST];
        private final boolean[] saidNo = new boolean[MOST];

        void sit(School school, Standing from, int pupilSet, int t) {
            size = 0;
            set = pupilSet;
            visited = from.visited;
            drawnFrom = from.drawnFrom;
            for (int p = 0; p < school.pupils; p++) {
                if ((pupilSet >> p & 1) == 1) {
                    who[size] = p;
                    at[size] = from.levels[p * MOST + t];
                    top[size] = school.topOf(from.levels, p, t);
                    quick[size] = school.quick[p];
                    belief[size] = school.belief[p];
                    pride[size] = school.pride[p];
                    size++;
                }
            }
        }

        void leave(Standing to, int t) {
            for (int i = 0; i < size; i++) {
                to.levels[who[i] * MOST + t] = at[i];
            }
            to.drawnFrom = drawnFrom;
        }

        /** Their LEVELS as one number, seat 0 the last figure. */
        int code() {
            int code = 0;
            for (int i = size - 1; i >= 0; i--) {
                code = code * 10 + at[i];
            }
            return code;
        }

        void setLevels(int code) {
            int rest = code;
            for (int i = 0; i < size; i++) {
                at[i] = rest % 10;
                rest /= 10;
            }
        }

        int room(int i) {
            return Math.max(0, top[i] - at[i]);
        }

        private void rise(int i, int by) {
            if (at[i] < top[i]) {
                at[i] = at[i] + by < top[i] ? at[i] + by : top[i];
            }
        }

        int knowing() {
            int known = 0;
            for (int i = 0; i < size; i++) {
                known += at[i] == KNOWN ? 1 : 0;
            }
            return known;
        }

        /** Whether somebody can never come to KNOW, for want of what the THING leans on. */
        boolean isBarred() {
            for (int i = 0; i < size; i++) {
                if (at[i] < KNOWN && top[i] < KNOWN) {
                    return true;
                }
            }
            return false;
        }

        int after(int turn) {
            return turn + 1 < size ? turn + 1 : 0;
        }

        int chosen(int rule, int turn) {
            if (rule == 0) {
                return least(NONE, 0);
            }
            return rule == 1 ? turn : greatestBelow(KNOWN);
        }

        /** Who has the least LEVEL, where one of them seems to have less. */
        int least(int seeming, int less) {
            int best = 0;
            int bestLevel = KNOWN + 1;
            for (int i = 0; i < size; i++) {
                int level = i == seeming ? at[i] - less : at[i];
                if (level < bestLevel) {
                    best = i;
                    bestLevel = level;
                }
            }
            return best;
        }

        private int greatestBelow(int limit) {
            int best = 0;
            int bestLevel = NONE;
            for (int i = 0; i < size; i++) {
                if (at[i] < limit && at[i] > bestLevel) {
                    best = i;
                    bestLevel = at[i];
                }
            }
            return best;
        }

        /** A MASTER tells: how many rose. */
        int tell() {
            int greatest = at[greatestBelow(KNOWN + 1)];
            int rose = 0;
            for (int i = 0; i < size; i++) {
                if (at[i] < greatest && room(i) > 0) {
                    at[i]++;
                    rose++;
                }
            }
            return rose;
        }

        int rightChance(int one) {
            return 10 * at[one] + 5;
        }

        boolean isSurer(int i, int one) {
            return i != one && at[i] > at[one];
        }

        boolean isGuestSurer(int one) {
            return visited && at[one] < KNOWN;
        }

        int noChance(int level, boolean right) {
            return right ? 5 * (KNOWN - level) : 10 * level;
        }

        boolean mayBelieve(int i, int one) {
            return i != one && at[i] >= 1 && at[i] <= 6;
        }

        private boolean comes(int chance, boolean drawn) {
            if (!drawn) {
                return chance >= 50;
            }
            drawnFrom = (int) (drawnFrom * 1103515245L + 12345L & 0x7fffffffL);
            return drawnFrom / 65536 % 100 < chance;
        }

        /** A LESSON: how it ended, 0 .. 3. */
        int hold(int one, boolean drawn) {
            boolean right = comes(rightChance(one), drawn);
            boolean some = false;
            for (int i = 0; i < size; i++) {
                saidNo[i] = isSurer(i, one) && comes(noChance(at[i], right), drawn);
                some = some || saidNo[i];
            }
            if (isGuestSurer(one) && comes(noChance(KNOWN, right), drawn)) {
                some = true;
            }
            if (right) {
                return some ? endShaken(one, drawn) : endAgreed(one);
            }
            return some ? endCorrected(one) : endMisled(one, drawn);
        }

        private int endCorrected(int one) {
            rise(one, quick[one]);
            for (int i = 0; i < size; i++) {
                if (saidNo[i]) {
                    rise(i, 1);
                }
            }
            return 0;
        }

        private int endMisled(int one, boolean drawn) {
            for (int i = 0; i < size; i++) {
                if (mayBelieve(i, one) && comes(belief[i], drawn)) {
                    at[i]--;
                }
            }
            return 1;
        }

        private int endShaken(int one, boolean drawn) {
            if (!comes(pride[one], drawn) && at[one] > 0) {
                at[one]--;
            }
            return 2;
        }

        private int endAgreed(int one) {
            int stood = at[one];
            for (int i = 0; i < size; i++) {
                if (at[i] <= stood) {
                    rise(i, 1);
                }
            }
            return 3;
        }

        /** Of a MILLION, that somebody says NO. */
        int someNo(int one, boolean right) {
            long none = MILLION;
            for (int i = 0; i < size; i++) {
                if (isSurer(i, one)) {
                    none = none * (100 - noChance(at[i], right)) / 100;
                }
            }
            if (isGuestSurer(one)) {
                none = none * (100 - noChance(KNOWN, right)) / 100;
            }
            return (int) (MILLION - none);
        }

        /** By how much who stands rises in the mean, in thousandths. */
        int mean(int one) {
            int right = rightChance(one);
            int wrongNo = someNo(one, false);
            int rightNo = someNo(one, true);
            long corrected = share(Math.min(quick[one], room(one)), 100 - right, wrongNo);
            long shaken = share(at[one] > 0 ? 1 : 0, right, rightNo) * (100 - pride[one]) / 100;
            long agreed = share(room(one) > 0 ? 1 : 0, right, MILLION - rightNo);
            return (int) (corrected - shaken + agreed);
        }

        private long share(long amount, int ofHundred, int ofMillion) {
            return 1000 * amount * ofHundred / 100 * ofMillion / MILLION;
        }
    }

    /** The ODDS, of a BILLION, of all LEVELS of one THING, by their code. */
    private static final class Odds {
        private long[] here = new long[1000];
        private long[] next = new long[1000];
        private final long[] parts = new long[16];
        private int partCount;
        private final int[] splitBy = new int[4];
        private int splits;

        void follow(Bench bench, int rule, int turn, int n) {
            if (bench.size < 1 || bench.size > FORESEEN) {
                return;
            }
            int states = TENS[bench.size];
            Arrays.fill(here, 0L);
            here[bench.code()] = BILLION;
            int whose = turn;
            for (int k = 0; k < n; k++) {
                Arrays.fill(next, 0L);
                for (int code = 0; code < states; code++) {
                    if (here[code] > 0) {
                        bench.setLevels(code);
                        teach(bench, bench.chosen(rule, whose), code);
                    }
                }
                long[] old = here;
                here = next;
                next = old;
                whose = bench.after(whose);
            }
        }

        private void teach(Bench bench, int one, int code) {
            long right = here[code] * bench.rightChance(one) / 100;
            partByNo(bench, one, right, true);
            endRight(bench, one, code);
            partByNo(bench, one, here[code] - right, false);
            endWrong(bench, one, code);
        }

        private void begin(long odds) {
            parts[0] = odds;
            partCount = 1;
            splits = 0;
        }

        /** Each part becomes two; where it came has the bit of this split in the part's number. */
        private void split(int seat, int chance) {
            if (splits >= splitBy.length) {
                return;
            }
            splitBy[splits] = seat;
            splits++;
            for (int m = 0; m < partCount; m++) {
                long came = parts[m] * chance / 100;
                parts[m + partCount] = came;
                parts[m] -= came;
            }
            partCount *= 2;
        }

        private void partByNo(Bench bench, int one, long odds, boolean right) {
            begin(odds);
            for (int i = 0; i < bench.size; i++) {
                if (bench.isSurer(i, one)) {
                    split(i, bench.noChance(bench.at[i], right));
                }
            }
            if (bench.isGuestSurer(one)) {
                split(NONE, bench.noChance(KNOWN, right));
            }
        }

        private void endRight(Bench bench, int one, int code) {
            int fallen = bench.at[one] > 0 ? code - TENS[one] : code;
            for (int m = 1; m < partCount; m++) {
                long stays = parts[m] * bench.pride[one] / 100;
                next[code] += stays;
                next[fallen] += parts[m] - stays;
            }
            int agreed = code;
            for (int i = 0; i < bench.size; i++) {
                if (bench.at[i] <= bench.at[one] && bench.room(i) > 0) {
                    agreed += TENS[i];
                }
            }
            next[agreed] += parts[0];
        }

        private void endWrong(Bench bench, int one, int code) {
            int taught = code + Math.min(bench.quick[one], bench.room(one)) * TENS[one];
            for (int m = 1; m < partCount; m++) {
                int surer = taught;
                for (int k = 0; k < splits; k++) {
                    int i = splitBy[k];
                    if ((m >> k & 1) == 1 && i != NONE && bench.room(i) > 0) {
                        surer += TENS[i];
                    }
                }
                next[surer] += parts[m];
            }
            endMisled(bench, one, code);
        }

        private void endMisled(Bench bench, int one, int code) {
            begin(parts[0]);
            for (int i = 0; i < bench.size; i++) {
                if (bench.mayBelieve(i, one)) {
                    split(i, bench.belief[i]);
                }
            }
            for (int m = 0; m < partCount; m++) {
                int misled = code;
                for (int k = 0; k < splits; k++) {
                    misled -= (m >> k & 1) * TENS[splitBy[k]];
                }
                next[misled] += parts[m];
            }
        }

        int thatAllKnow(int pupils) {
            return (int) (here[TENS[pupils] - 1] / 1000);
        }

        int thatNobodyKnows(int pupils) {
            long sum = 0;
            for (int code = 0; code < TENS[pupils]; code++) {
                boolean somebody = false;
                for (int p = 0; p < pupils; p++) {
                    somebody = somebody || code / TENS[p] % 10 == KNOWN;
                }
                sum += somebody ? 0 : here[code];
            }
            return (int) (sum / 1000);
        }

        int meanLevel(int pupils, int p) {
            long sum = 0;
            for (int code = 0; code < TENS[pupils]; code++) {
                sum += here[code] * (code / TENS[p] % 10);
            }
            return (int) (sum / MILLION);
        }
    }

    /**
     * FEWEST by the code of LEVELS, kept once found, till others sit there. While nobody is barred it hangs on these,
     * on the PUPILS and on the GUEST alone: so one Search serves all THINGS, and is asked either always or never
     * with a GUEST.
     */
    private static final class Search {
        private static final int UNSEEN = -2;
        private final int[] far = new int[TENS[SEARCHED]];
        private int ofSet = NONE;

        void forget() {
            ofSet = NONE;
        }

        int lessonsFrom(Bench bench) {
            if (bench.size > SEARCHED) {
                return NONE;
            }
            if (bench.set != ofSet) {
                ofSet = bench.set;
                Arrays.fill(far, 0, TENS[bench.size], UNSEEN);
            }
            return look(bench, bench.code(), 0);
        }

        /**
         * Somebody falls in a LIKELY LESSON only where nobody could be RIGHT or say NO, and then never will:
         * only what rises leads there. As somebody rises each time, the depth is at most 9 for each PUPIL.
         */
        private int look(Bench bench, int code, int depth) {
            if (depth > SEARCHED * KNOWN) {
                return NONE;
            }
            if (far[code] != UNSEEN) {
                return far[code];
            }
            int best = code == TENS[bench.size] - 1 ? 0 : NONE;
            for (int one = 0; one < bench.size; one++) {
                bench.setLevels(code);
                bench.hold(one, false);
                int next = bench.code();
                int rest = next > code ? look(bench, next, depth + 1) : NONE;
                if (rest != NONE && (best == NONE || rest + 1 < best)) {
                    best = rest + 1;
                }
            }
            far[code] = best;
            return best;
        }

        /** Who stands up in LESSON j of THE ROW, behind lessonsFrom(bench) that answered more than j. */
        int standsUp(Bench bench, int j) {
            int who = NONE;
            for (int k = 0; k <= j; k++) {
                int code = bench.code();
                who = NONE;
                for (int one = 0; one < bench.size && who == NONE; one++) {
                    bench.setLevels(code);
                    bench.hold(one, false);
                    who = far[bench.code()] == far[code] - 1 ? one : NONE;
                }
            }
            return who;
        }
    }
}
