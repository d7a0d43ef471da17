import java.math.BigInteger;

/** The bounds that the document names in part 2 and in promises 11 to 17, sentence by sentence. */
public final class LessonBoundsTest {
    private static final int UNKNOWN = Due.UNKNOWN, OUTSIDE = Due.OUTSIDE, NOT = Due.NOT;
    private static final int MIN = Due.MIN, MAX = Due.MAX;
    private static final int[] ANY = Due.below(100);

    private static void due(String what, long got, long want) {
        Due.due(what, got, want);
    }

    private static LeastTeaches visited(LeastTeaches x) {
        x.guest(true);
        return x;
    }

    // ---- what is said

    private static void whoListens() {
        Due.sentence("A LESSON of a THING: one stands up, the others listen; a GUEST, if let in, listens with LEVEL 9.");
        for (int l = 0; l <= 9; l++) {
            due("no GUEST says NO at " + l, Due.at(l).exact(0, 0, 1), 0);
            Due.drawn("no GUEST at " + l, Due.at(l), 0, 1, Due.from(10 * l + 5));
            LeastTeaches x = visited(Due.at(l));
            due("the GUEST says NO at " + l, x.exact(0, 0, 1), l < 9 ? 900000 : 0);
            due("the GUEST never to RIGHT at " + l, x.exact(0, 0, 2), 0);
            if (l == 9) {
                Due.drawn("9 is not greater than 9", x, 0, 3, Due.below(95));
                Due.drawn("9 is not greater than 9", x, 0, 1, Due.from(95));
                continue;
            }
            Due.drawn("0 is not below 0", x, 0, 3, Due.below(10 * l + 5), Due.just(0));
            x = visited(Due.at(l));
            Due.drawn("90 is not below 90", x, 0, 1, Due.from(10 * l + 5), Due.just(90));
            due("nobody taught it", x.level(0, 0), l);
            Due.drawn("89 is", x, 0, 0, Due.from(10 * l + 5), Due.just(89));
            due("the GUEST taught it", x.level(0, 0), l + 1);
        }
        LeastTeaches x = Due.one(1, 100, 0, 5, 1, 100, 0, 5);
        Due.drawn("who stands does not listen", x, 1, 1, Due.from(55), ANY);
        Due.levels("who stands does not listen", x, 0, 4, 5);
        x = Due.of("thing;thing;pupil 1 100 0 3,9;pupil 1 100 0 9,0;");
        due("it is a LESSON of THING 0", x.lesson(0, 0, false), 0);
        Due.levels("THING 0", x, 0, 4, 9);
        Due.levels("THING 1 stays", x, 1, 9, 0);
    }

    private static void rightness() {
        Due.sentence("By LEVELS of that THING at the beginning: RIGHT is what is said with a chance of 10 times LEVEL and 5 of a hundred.");
        for (int l = 0; l <= 9; l++) {
            LeastTeaches x = Due.of("thing;thing;pupil 1 0 0 " + l + "," + (9 - l) + ";");
            due("at " + l, x.exact(0, 0, 0), 10 * l + 5);
            due("of THING 1", x.exact(0, 1, 0), 10 * (9 - l) + 5);
            Due.drawn("not below", x, 0, 1, Due.just(10 * l + 5));
            due("nothing changed", x.level(0, 0), l);
            Due.drawn("below", x, 0, 3, Due.just(10 * l + 4));
            due("it rose", x.level(0, 0), Math.min(9, l + 1));
        }
        for (int p = 0; p < 2; p++) {
            LeastTeaches x = p == 0 ? Due.at(5, 6) : Due.at(6, 5);
            due("RIGHT", x.lesson(p, 0, false), 3);
            Due.levels("6 was greater at the beginning", x, 0, 6, 6);
            x = p == 0 ? Due.one(5, 0, 0, 4, 1, 0, 0, 6) : Due.one(1, 0, 0, 6, 5, 0, 0, 4);
            due("wrong", x.lesson(p, 0, false), 0);
            Due.levels("6 was SURER at the beginning", x, 0, p == 0 ? 9 : 7, p == 0 ? 7 : 9);
        }
    }

    private static void surer() {
        Due.sentence("SURER are those who listen with a greater LEVEL; each says NO with a chance of 10 times its LEVEL, if what was "
            + "said is wrong, of 5 times (9 less its LEVEL), if it is RIGHT.");
        for (int l = 0; l <= 9; l++) {
            for (int m = 0; m <= 9; m++) {
                for (int p = 0; p < 2; p++) {
                    if (m > l) oneSurer(l, m, p);
                    else noneSurer(l, m, p);
                }
            }
        }
    }

    private static LeastTeaches pair(int l, int m, int p) {
        return p == 0 ? Due.at(l, m) : Due.at(m, l);
    }

    private static void pairIs(String what, LeastTeaches x, int p, int stood, int listened) {
        due(what + ": who stood", x.level(p, 0), stood);
        due(what + ": who listened", x.level(1 - p, 0), listened);
    }

    private static void oneSurer(int l, int m, int p) {
        String who = m + " to " + l;
        LeastTeaches x = pair(l, m, p);
        due(who + " if it is wrong", x.exact(p, 0, 1), 100000 * m);
        due(who + " if it is RIGHT", x.exact(p, 0, 2), 50000 * (9 - m));
        Due.drawn(who + " wrong: NO", x, p, 0, Due.from(10 * l + 5), Due.just(10 * m - 1));
        pairIs(who + " wrong: NO", x, p, l + 1, Math.min(9, m + 1));
        x = pair(l, m, p);
        if (m <= 6) Due.drawn(who + " wrong: none", x, p, 1, Due.from(10 * l + 5), Due.just(10 * m), ANY);
        else Due.drawn(who + " wrong: none", x, p, 1, Due.from(10 * l + 5), Due.just(10 * m));
        pairIs(who + " wrong: none", x, p, l, m);
        if (m < 9) {
            Due.drawn(who + " RIGHT: NO", x, p, 2, Due.below(10 * l + 5), Due.just(5 * (9 - m) - 1), ANY);
            pairIs(who + " RIGHT: NO", x, p, Math.max(0, l - 1), m);
        }
        x = pair(l, m, p);
        Due.drawn(who + " RIGHT: none", x, p, 3, Due.below(10 * l + 5), Due.just(5 * (9 - m)));
        pairIs(who + " RIGHT: none", x, p, l + 1, m);
    }

    private static void noneSurer(int l, int m, int p) {
        String who = m + " is not SURER than " + l;
        LeastTeaches x = pair(l, m, p);
        due(who, x.exact(p, 0, 1) + x.exact(p, 0, 2), 0);
        if (m >= 1 && m <= 6) Due.drawn(who, x, p, 1, Due.from(10 * l + 5), ANY);
        else Due.drawn(who, x, p, 1, Due.from(10 * l + 5));
        pairIs(who + ", wrong", x, p, l, m);
        Due.drawn(who, x, p, 3, Due.below(10 * l + 5));
        pairIs(who + ", RIGHT", x, p, Math.min(9, l + 1), Math.min(9, m + 1));
    }

    // ---- how all change

    private static void corrected() {
        Due.sentence("Then all change: wrong and some NO: who stands rises by QUICK; each who said NO rises by 1.");
        for (int quick = 1; quick <= 5; quick++) {
            for (int l = 0; l <= 8; l++) {
                LeastTeaches x = visited(Due.one(quick, 0, 0, l));
                Due.drawn("QUICK " + quick + " from " + l, x, 0, 0, Due.from(10 * l + 5), Due.below(90));
                due("QUICK " + quick + " from " + l, x.level(0, 0), Math.min(9, l + quick));
            }
        }
        int[][] no = {{1, 1}, {1, 0}, {0, 1}};
        for (int[] said : no) {
            LeastTeaches x = Due.one(1, 0, 0, 5, 2, 0, 0, 2, 5, 0, 0, 6, 5, 0, 0, 2, 5, 0, 0, 0);
            Due.drawn("who said NO", x, 1, 0, Due.from(25), said[0] == 1 ? Due.below(50) : Due.from(50),
                said[1] == 1 ? Due.below(60) : Due.from(60));
            Due.levels("who said NO", x, 0, 5 + said[0], 4, 6 + said[1], 2, 0);
        }
    }

    private static void misled() {
        Due.sentence("Wrong without NO: each who listens at LEVEL 1 to 6 falls by 1 with a chance of BELIEF.");
        for (int m = 0; m <= 9; m++) {
            for (int belief : new int[] {0, 1, 50, 99, 100}) {
                LeastTeaches x = Due.one(1, 100, 0, 9, 1, belief, 0, m);
                if (m < 1 || m > 6) {
                    Due.drawn("nothing to believe at " + m, x, 0, 1, Due.from(95));
                    Due.levels("nothing to believe at " + m, x, 0, 9, m);
                    continue;
                }
                if (belief < 100) Due.drawn("BELIEF " + belief, x, 0, 1, Due.from(95), Due.just(belief));
                Due.levels("not below BELIEF " + belief, x, 0, 9, m);
                if (belief > 0) {
                    Due.drawn("BELIEF " + belief, x, 0, 1, Due.from(95), Due.just(belief - 1));
                    Due.levels("below BELIEF " + belief, x, 0, 9, m - 1);
                }
                x = Due.one(1, belief, 0, m, 1, 100, 0, 0);
                if (belief > 0) {
                    Due.drawn("SURER, but silent", x, 1, 1, Due.from(5), Due.from(10 * m), Due.just(belief - 1));
                    Due.levels("SURER, but silent", x, 0, m - 1, 0);
                }
            }
        }
        LeastTeaches x = Due.one(1, 100, 0, 1, 1, 100, 0, 1, 1, 100, 0, 1);
        Due.drawn("who stands does not fall", x, 1, 1, Due.from(15), ANY, ANY);
        Due.levels("who stands does not fall", x, 0, 0, 1, 0);
        x = visited(Due.one(1, 100, 0, 5, 1, 100, 0, 4));
        Due.drawn("with some NO nobody falls", x, 0, 0, Due.from(55), Due.just(0));
        Due.levels("with some NO nobody falls", x, 0, 6, 4);
    }

    private static void shaken() {
        Due.sentence("RIGHT and some NO: who stands falls by 1, but with a chance of PRIDE (of a hundred) stays.");
        for (int l = 0; l <= 7; l++) {
            for (int pride : new int[] {0, 1, 50, 99, 100}) {
                LeastTeaches x = Due.one(1, 100, pride, l, 1, 100, 0, 8, 1, 100, 0, l);
                if (pride > 0) Due.drawn("PRIDE " + pride, x, 0, 2, Due.below(10 * l + 5), Due.just(4), Due.just(pride - 1));
                Due.levels("below PRIDE " + pride, x, 0, l, 8, l);
                if (pride < 100) {
                    Due.drawn("PRIDE " + pride, x, 0, 2, Due.below(10 * l + 5), Due.just(4), Due.just(pride));
                    Due.levels("not below PRIDE " + pride, x, 0, Math.max(0, l - 1), 8, l);
                }
            }
        }
    }

    private static void agreed() {
        Due.sentence("RIGHT without NO: who stands rises by 1, each who listens at a LEVEL that is not greater than that one's rises by 1.");
        LeastTeaches x = Due.one(5, 100, 0, 0, 5, 100, 0, 6, 5, 100, 0, 5, 5, 100, 0, 5, 5, 100, 0, 9, 5, 100, 0, 4);
        Due.drawn("by 1, whatever QUICK is", x, 2, 3, Due.below(55), Due.from(15), ANY);
        Due.levels("not greater", x, 0, 1, 6, 6, 6, 9, 5);
        due("at 9 all others", Due.at(9, 8).lesson(0, 0, false), 3);
        x = Due.at(9, 9, 8, 0);
        x.lesson(1, 0, false);
        Due.levels("at 9 all others", x, 0, 9, 9, 9, 1);
        for (int q = 1; q <= 5; q++) {
            x = Due.one(q, 0, 0, 0);
            Due.drawn("at 0, by 1", x, 0, 3, Due.below(5));
            due("at 0, by 1", x.level(0, 0), 1);
        }
    }

    private static void ends() {
        Due.sentence("(9 at most, 0 at least; the GUEST never changes.)");
        LeastTeaches x = visited(Due.one(5, 100, 0, 8, 5, 0, 0, 9));
        Due.drawn("8 and 5 is 9", x, 0, 0, Due.from(85), Due.below(90), ANY);
        Due.levels("who says NO at 9 stays", x, 0, 9, 9);
        x.lesson(0, 0, false);
        Due.levels("RIGHT at 9", x, 0, 9, 9);
        x = Due.one(1, 100, 0, 0, 1, 100, 0, 8);
        Due.drawn("0 falls no lower", x, 0, 2, Due.below(5), Due.below(5), ANY);
        Due.levels("0 falls no lower", x, 0, 0, 8);
        x = visited(Due.one(5, 100, 0, 0, 3, 50, 50, 4, 1, 0, 100, 8));
        int outside = 0;
        for (int k = 0; k < 60; k++) {
            x.run(k % 3, 0, 3, true);
            for (int p = 0; p < 3; p++) outside += x.level(p, 0) < 0 || x.level(p, 0) > 9 ? 1 : 0;
            if (k % 5 == 0) x.summer(3);
        }
        due("LEVELS out of 0 .. 9", outside, 0);
        due("the GUEST is there", x.count(4), 1);
        x.summer(9);
        due("and at 9", x.exact(0, 0, 1), 900000);
    }

    // ---- LIKELY, DRAWN

    private static void likely() {
        Due.sentence("A LIKELY LESSON: what has a chance of 50 or more comes, else not.");
        for (int l = 0; l <= 9; l++) {
            for (int m = 0; m <= 9; m++) {
                for (int belief = 49; belief <= 50; belief++) {
                    LeastTeaches x = Due.one(2, 100, 0, l, 1, belief, 0, m);
                    x.seed(77);
                    boolean right = l >= 5;
                    boolean no = !right && m >= 5;
                    boolean falls = !right && !no && belief == 50 && m >= 1;
                    due(l + " stands, " + m + " listens", x.lesson(0, 0, false), right ? 3 : no ? 0 : 1);
                    int stood = right ? Math.min(9, l + 1) : no ? l + 2 : l;
                    int heard = right ? (m <= l ? Math.min(9, m + 1) : m) : no ? Math.min(9, m + 1) : falls ? m - 1 : m;
                    Due.levels(l + " stands, " + m + " listens, BELIEF " + belief, x, 0, stood, heard);
                    due("no DRAW", x.seed(0), 77);
                }
            }
        }
        due("the GUEST: 90", visited(Due.at(4)).lesson(0, 0, false), 0);
        due("5 says NO: 50", Due.at(0, 5).lesson(0, 0, false), 0);
        due("4 does not: 40", Due.at(0, 4).lesson(0, 0, false), 1);
        due("5 is RIGHT: 55", Due.at(5).lesson(0, 0, false), 3);
        due("4 is not: 45", Due.at(4).lesson(0, 0, false), 1);
    }

    private static void seeds() {
        Due.sentence("A DRAWN one: THE SEED (0 at first: each DRAW it becomes it times 1103515245 and 12345, left over by 2 to the 31; "
            + "the DRAW of n is it / 65536, left over by n)");
        due("0 at first", new LeastTeaches().seed(9), 0);
        LeastTeaches x = Due.at(0);
        due("from 0 the DRAW is 0", x.lesson(0, 0, true), 3);
        due("from 0", x.seed(1), 12345);
        BigInteger by = BigInteger.valueOf(1103515245L), more = BigInteger.valueOf(12345L), over = BigInteger.ONE.shiftLeft(31);
        int[] seeds = {0, 1, 2, 65535, 65536, 12345, 1 << 30, (1 << 30) - 1, MAX - 1, MAX, 1103515245, 2000000000};
        for (int v : seeds) {
            for (int l = 0; l <= 9; l++) {
                x = Due.at(l);
                x.seed(v);
                long next = BigInteger.valueOf(v).multiply(by).add(more).mod(over).longValueExact();
                due("the DRAW from " + v + " at " + l, x.lesson(0, 0, true), next / 65536 % 100 < 10 * l + 5 ? 3 : 1);
                due("THE SEED behind " + v, x.seed(0), next);
            }
        }
    }

    private static void drawsInOrder() {
        Due.sentence("DRAWS of 100 below the chance, in this order: what is said; NO of those SURER, by numbers, the GUEST last; BELIEF "
            + "of those whom it may concern, by numbers, or PRIDE.");
        for (int said = 0; said < 8; said++) {
            LeastTeaches x = visited(Due.one(1, 0, 0, 4, 1, 0, 0, 2, 1, 0, 0, 7));
            int a = said & 1, b = said >> 1 & 1, c = said >> 2;
            int[] first = Due.just(40 - a), second = Due.just(70 - b), guest = c == 1 ? Due.below(90) : Due.from(90);
            String what = "NO of 4, 7, the GUEST: " + a + b + c;
            if (said == 0) Due.drawn(what, x, 1, 1, Due.from(25), first, second, guest, ANY);
            else Due.drawn(what, x, 1, 0, Due.from(25), first, second, guest);
            Due.levels(what, x, 0, 4 + a, said == 0 ? 2 : 3, 7 + b);
        }
        for (int fell = 0; fell < 8; fell++) {
            LeastTeaches x = Due.one(1, 20, 0, 1, 1, 50, 0, 6, 1, 100, 0, 6, 1, 80, 0, 3, 1, 100, 0, 0);
            int a = fell & 1, b = fell >> 1 & 1, c = fell >> 2;
            Due.drawn("BELIEF 20, 50, 80: " + fell, x, 2, 1, Due.from(65), Due.just(20 - a), Due.just(50 - b),
                c == 1 ? Due.below(80) : Due.from(80));
            Due.levels("BELIEF 20, 50, 80: " + fell, x, 0, 1 - a, 6 - b, 6, 3 - c, 0);
        }
        for (int stays = 0; stays < 2; stays++) {
            LeastTeaches x = visited(Due.one(1, 100, 0, 6, 1, 100, 0, 8, 1, 0, 30, 5));
            Due.drawn("RIGHT, NO of 6, 8, the GUEST, PRIDE 30", x, 2, 2, Due.below(55), Due.just(14), Due.from(5), ANY, Due.just(30 - stays));
            Due.levels("PRIDE last", x, 0, 6, 8, 4 + stays);
        }
    }

    private static void drawsForEach() {
        Due.sentence("(One for each of these, whatever its chance; none for anybody else.)");
        LeastTeaches x = visited(Due.at(0, 9));
        Due.drawn("9 and the GUEST, to RIGHT: 0 of a hundred", x, 0, 3, Due.below(5), ANY, ANY);
        Due.drawn("all at 9, 1 listens", Due.at(9, 9), 0, 3, Due.below(95));
        x = Due.one(1, 0, 0, 9, 1, 0, 0, 1, 1, 100, 0, 6, 1, 100, 0, 0, 1, 100, 0, 7);
        Due.drawn("BELIEF 0 and 100; none of 0 and 7", x, 0, 1, Due.from(95), Due.just(0), Due.just(99));
        Due.levels("BELIEF 0 and 100", x, 0, 9, 1, 5, 0, 7);
        x = Due.one(1, 0, 100, 0, 1, 0, 0, 8);
        Due.drawn("PRIDE 100", x, 0, 2, Due.below(5), Due.below(5), Due.just(99));
        x = Due.one(1, 0, 0, 0, 1, 0, 0, 8);
        Due.drawn("PRIDE 0 at 0", x, 0, 2, Due.below(5), Due.below(5), Due.just(0));
        x = visited(Due.at(0, 7, 7, 7));
        Due.drawn("all SURER, behind the first NO, too", x, 0, 0, Due.from(5), Due.below(70), ANY, ANY, ANY);
        x = Due.at(7, 7, 7, 0);
        Due.drawn("who is not SURER: none", x, 0, 3, Due.below(75));
        due("LIKELY: none", x.lesson(0, 0, false) + x.seed(0), 3);
    }

    // ---- EXACT

    private static void exactNo() {
        Due.sentence("EXACT: of one who would stand: RIGHT (of a hundred); of a MILLION that somebody says NO, if it is wrong, if it is "
            + "RIGHT (a MILLION less the product: from a MILLION, for each SURER, by numbers, the GUEST last, times (100 less its "
            + "chance) / 100, cut)");
        LeastTeaches x = Due.at(0, 1, 2, 2, 2, 4);
        due("from the first on: 600000, 390000, 253500, 164775, 123581", x.exact(0, 0, 2), 1000000 - 123581);
        due("from the first on: 900000, .. 276480", x.exact(0, 0, 1), 1000000 - 276480);
        x = Due.at(4, 2, 2, 2, 1, 0);
        due("from the last they were 123580", x.exact(5, 0, 2), 1000000 - 123580);
        x = Due.at(2, 2, 0, 2, 2, 2);
        due("cut each time: 116029 in one", x.exact(2, 0, 2), 1000000 - 116028);
        x = Due.at(0, 9, 9, 9, 9, 9);
        due("five at 9", x.exact(0, 0, 1), 999990);
        due("five at 9, if RIGHT", x.exact(0, 0, 2), 0);
        due("and the GUEST", visited(x).exact(0, 0, 1), 999999);
        due("of 95", x.exact(1, 0, 0), 95);
        due("none SURER than 9", x.exact(1, 0, 1) + x.exact(1, 0, 2), 0);
        due("nobody listens", Due.at(0).exact(0, 0, 1), 0);
    }

    private static void exactMean() {
        Due.sentence("by how much that one's LEVEL rises in the mean, in thousandths: QUICK (as far as it can rise) times 1000 times the "
            + "odds of wrong and some NO, less 1000 times those of RIGHT and some NO (if LEVEL is above 0) times (100 less PRIDE) / "
            + "100, and 1000 (if it can rise) times those of RIGHT without");
        for (int quick = 1; quick <= 5; quick++) {
            for (int l = 0; l <= 9; l++) {
                LeastTeaches x = visited(Due.one(quick, 0, 0, l));
                int can = Math.min(quick, 9 - l);
                int want = l == 9 ? 0 : can * 10 * (95 - 10 * l) * 9 / 10 + 10 * (10 * l + 5);
                due("QUICK " + quick + " at " + l, x.exact(0, 0, 3), want);
                x = visited(Due.of("thing;thing on 0;pupil " + quick + " 0 0 4," + l + ";"));
                can = Math.max(0, Math.min(quick, 4 - l));
                want = can * 10 * (95 - 10 * l) * 9 / 10 + (l < 4 ? 10 * (10 * l + 5) : 0);
                due("held, QUICK " + quick + " at " + l, x.exact(0, 1, 3), want);
            }
        }
        due("at 0 there is nothing to lose: 950 * 8 / 10, 50 * 95 / 100", Due.at(0, 8).exact(0, 0, 3), 760 + 47);
        due("at 1 there is: 850 * 8 / 10, 150 / 20, 150 * 95 / 100", Due.at(1, 8).exact(0, 0, 3), 680 - 7 + 142);
        due("PRIDE 100", Due.one(1, 0, 100, 1, 1, 0, 0, 8).exact(0, 0, 3), 680 + 142);
        LeastTeaches x = Due.of("thing;thing on 0;pupil 5 0 0 4,4;pupil 1 0 0 4,5;");
        due("held it can but fall: 450 * 20 / 100", x.exact(0, 1, 3), -90);
        x = Due.of("thing;thing on 0;pupil 5 0 99 4,4;pupil 1 0 0 4,5;");
        due("held, PRIDE 99: 90 / 100", x.exact(0, 1, 3), 0);
    }

    private static void exactCuts() {
        Due.sentence("each of the three: 1000 times the amount times (chance of a hundred) / 100 (cut) times (of a MILLION) / MILLION "
            + "(cut), for the second then times (100 less PRIDE) / 100 (cut).");
        due("257 (.45) and 10 (.98)", Due.at(0, 1, 1, 1).exact(0, 0, 3), 267);
        due("414 (.8), 108 (.8) * 93 / 100 = 100 (.44), 41 (.19)",
            Due.one(1, 0, 7, 1, 1, 0, 0, 2, 1, 0, 0, 2, 1, 0, 0, 2).exact(0, 0, 3), 414 - 100 + 41);
    }

    // ---- ODDS

    private static void odds() {
        Due.sentence("ODDS behind n DRAWN LESSONS of a THING by a RULE, of a BILLION (1000000000), for 3 PUPILS or fewer: over all LEVELS "
            + "of that THING there may be (others stay): at first a BILLION for how things stand");
        for (int l = 0; l <= 9; l++) {
            for (int pupils = 1; pupils <= 3; pupils++) {
                LeastTeaches x = pupils == 1 ? Due.at(l) : pupils == 2 ? Due.at(l, l) : Due.at(l, l, l);
                for (int rule = 0; rule < 3; rule++) {
                    due("all KNOW", x.behind(rule, 0, 0, 0), l == 9 ? 1000000 : 0);
                    due("nobody does", x.behind(rule, 0, 0, 1), l == 9 ? 0 : 1000000);
                    for (int p = 0; p < pupils; p++) due("the mean", x.behind(rule, 0, 0, 2 + p), 1000 * l);
                }
            }
        }
        due("4 PUPILS", Due.at(9, 9, 9, 9).behind(0, 0, 0, 0), NOT);
        LeastTeaches x = Due.of("thing;thing on 0;pupil 1 0 0 4,4;pupil 1 0 0 4,9;");
        due("THING 0 stays, so who leans on it is held", x.behind(0, 1, 20, 2) <= 4000 ? 1 : 0, 1);
        due("nobody else comes to KNOW", x.behind(0, 1, 20, 0), 0);
        due("it is tried", x.level(0, 1) + x.seed(0) + x.count(5), 4);
    }

    private static void oddsOfRight() {
        Due.sentence("in a LESSON the odds of each LEVELS are parted: RIGHT: times its chance / 100 (cut), wrong: what is left");
        for (int l = 0; l <= 9; l++) {
            LeastTeaches x = Due.at(l);
            long[] here = new long[10];
            here[l] = 1000000000L;
            for (int n = 0; n <= 20; n++) {
                long mean = 0, less = 0;
                for (int k = 0; k <= 9; k++) {
                    mean += here[k] * k;
                    less += k < 9 ? here[k] : 0;
                }
                due("all KNOW behind " + n + " from " + l, x.behind(n % 3, 0, n, 0), here[9] / 1000);
                due("nobody does behind " + n + " from " + l, x.behind(n % 3, 0, n, 1), less / 1000);
                due("the mean behind " + n + " from " + l, x.behind(n % 3, 0, n, 2), mean / 1000000);
                for (int k = 8; k >= 0; k--) {
                    long right = here[k] * (10 * k + 5) / 100;
                    here[k + 1] += right;
                    here[k] -= right;
                }
            }
        }
        foreseen("RIGHT is cut", "3 1 33 7 4 7 33 3 2 33 61 6", false, 2, 999999, 0, 8999, 8999, 8999);
    }

    /** What behind() answers of 20 LESSONS; PUPILS told by QUICK, BELIEF, PRIDE, LEVEL. */
    private static void foreseen(String what, String pupils, boolean guest, int rule, int... want) {
        String[] told = pupils.split(" ");
        int[] of = new int[told.length];
        for (int i = 0; i < of.length; i++) of[i] = Integer.parseInt(told[i]);
        LeastTeaches x = Due.one(of);
        x.guest(guest);
        for (int w = 0; w < want.length; w++) due(what + ": behind(" + rule + ", 0, 20, " + w + ")", x.behind(rule, 0, 20, w), want[w]);
    }

    /** Each of these rows would be another if one cut were upwards, or one order were turned about. */
    private static void oddsOfNo() {
        Due.sentence("each of these by those SURER, by numbers, the GUEST last: NO: times its chance / 100 (cut), none: what is left");
        foreseen("NO is cut", "1 7 99 9 3 7 99 9 2 33 7 7", true, 0, 999999, 0, 9000, 9000, 8999);
        foreseen("by numbers, the GUEST last", "4 61 1 1 1 1 1 1 2 7 99 0", true, 0, 996190, 847, 8998, 8994, 8994);
        LeastTeaches x = visited(Due.at(8));
        due("the GUEST: 8 is wrong .15, NO .9, or RIGHT", x.behind(0, 0, 1, 0), 985000);
        x = visited(Due.at(9));
        due("the GUEST has no NO for 9", x.behind(0, 0, 20, 0), 1000000);
    }

    private static void oddsOfBelief() {
        Due.sentence("then, as told, by BELIEF of each whom it may concern, by numbers, or by PRIDE, likewise; what comes to the same "
            + "LEVELS is added.");
        foreseen("BELIEF is cut", "2 1 99 3 5 7 7 2 2 33 99 0", false, 0, 961345, 31195, 8911, 8923, 8897);
        foreseen("BELIEF by numbers", "1 7 7 6 3 61 1 2 2 33 1 1", false, 1, 999362, 77, 8999, 8999, 8998);
        foreseen("PRIDE is cut", "2 33 61 4 4 99 7 2 5 61 33 4", false, 0, 978118, 19791, 8870, 8872, 8872);
        foreseen("PRIDE of each who may have said NO", "4 1 33 4 2 1 61 2 1 61 33 0", false, 0, 944662, 21652, 8961, 8914, 8871);
        for (int m = 0; m <= 9; m++) {
            LeastTeaches x = Due.one(1, 0, 0, 9, 1, 100, 0, m);
            int falls = m >= 1 && m <= 6 ? 50 : 0;
            due("9 is wrong .05, BELIEF 100 at " + m, x.behind(1, 0, 1, 3), 1000 * m + (m < 9 ? 950 : 0) - falls);
            x = Due.one(1, 0, 0, 9, 1, 0, 0, m);
            due("9 is wrong .05, BELIEF 0 at " + m, x.behind(1, 0, 1, 3), 1000 * m + (m < 9 ? 950 : 0));
        }
        for (int l = 0; l <= 7; l++) {
            int right = 10 * l + 5, told = 8 * (100 - right);
            LeastTeaches x = Due.one(1, 0, 0, l, 1, 0, 0, 8);
            due("PRIDE 0 at " + l + ": .05 say NO, at 0 for nothing", x.behind(0, 0, 1, 2), 1000 * l + told + (l > 0 ? 9 * right : 19 * right / 2));
            x = Due.one(1, 0, 100, l, 1, 0, 0, 8);
            due("PRIDE 100 at " + l, x.behind(0, 0, 1, 2), 1000 * l + told + 19 * right / 2);
        }
    }

    private static void oddsByTurns() {
        Due.sentence("(By RULE 1 turns go on, from whose turn it is.)");
        // 9 is RIGHT .95; who is less learns by being RIGHT, too, or by NO of two at 9, .99
        LeastTeaches x = Due.at(9, 4, 9);
        due("from the turn of 0", x.behind(1, 0, 1, 3), 4950);
        due("0, then 1: 4950, .95 * .9955, .05 * .9945", x.behind(1, 0, 2, 3), 5945);
        x.run(1, 0, 1, false);
        due("whose turn it is", x.count(5) * 10 + x.level(1, 0), 15);
        due("from the turn of 1: 5 is RIGHT .55", x.behind(1, 0, 1, 3), 5995);
        due("1, then 2", x.behind(1, 0, 2, 3), 6945);
        x.run(1, 0, 1, false);
        due("whose turn it is", x.count(5) * 10 + x.level(1, 0), 26);
        due("from the turn of 2", x.behind(1, 0, 1, 3), 6950);
        due("2, then 0 again", x.behind(1, 0, 2, 3), 7900);
        due("2, 0, then 1: 7900, .9025 * .9985, .095 * .9975, .0025 * .9965", x.behind(1, 0, 3, 3), 8898);
        due("no turn has gone on", x.count(5), 2);
    }

    // ---- RULES

    private static void rules() {
        Due.sentence("RULES: 0 the least LEVEL of the THING stands up (of like ones the least PUPIL)");
        due("the least", Due.at(3, 2, 1, 0).up(0, 0), 3);
        due("of like ones", Due.at(3, 2, 2, 3).up(0, 0), 1);
        due("all alike", Due.at(9, 9, 9, 9, 9, 9).up(0, 0), 0);
        due("all at 0", Due.at(0, 0).up(0, 0), 0);
        due("9 and 8", Due.at(9, 9, 9, 9, 9, 8).up(0, 0), 5);
        due("of the THING", Due.of("thing;thing;pupil 1 0 0 0,1;pupil 1 0 0 1,0;").up(0, 1), 1);

        Due.sentence("1 by turns, from PUPIL 0 on");
        LeastTeaches x = Due.at(9, 8, 0);
        for (int k = 0; k < 7; k++) {
            due("turn " + k, x.up(1, 0), k % 3);
            due("turn " + k, x.count(5), k % 3);
            x.run(1, 0, 1, true);
        }
        x = Due.at(5);
        x.run(1, 0, 3, false);
        due("one PUPIL", x.up(1, 0), 0);

        Due.sentence("2 the greatest LEVEL below 9 (of like ones the least PUPIL; all at 9: PUPIL 0).");
        due("the greatest below 9", Due.at(3, 8, 9, 0).up(2, 0), 1);
        due("of like ones", Due.at(3, 9, 5, 5).up(2, 0), 2);
        due("all at 9", Due.at(9, 9, 9).up(2, 0), 0);
        due("one below 9", Due.at(9, 9, 0).up(2, 0), 2);
        due("all at 0", Due.at(0, 0, 0).up(2, 0), 0);
        due("of the THING", Due.of("thing;thing;pupil 1 0 0 8,1;pupil 1 0 0 1,8;").up(2, 1), 1);
    }

    // ---- promises 11 to 17

    private static final int[] NO_PUPIL = {MIN, -1, 2, 6, MAX}, NO_THING = {MIN, -1, 1, 6, MAX}, NO_RULE = {MIN, -1, 3, 4, MAX};

    private static void lessons() {
        Due.sentence("A LIKELY LESSON (drawn = false), a DRAWN one: 0 wrong with NO, 1 wrong without, 2 RIGHT with NO, 3 RIGHT without. "
            + "UNKNOWN.");
        LeastTeaches x = Due.at(3, 8);
        Due.drawn("wrong with NO", Due.at(3, 8), 0, 0, Due.from(35), Due.below(80));
        Due.drawn("wrong without", Due.at(3, 8), 0, 1, Due.from(35), Due.from(80));
        Due.drawn("RIGHT with NO", Due.at(3, 8), 0, 2, Due.below(35), Due.below(5), ANY);
        Due.drawn("RIGHT without", Due.at(3, 8), 0, 3, Due.below(35), Due.from(5));
        for (int p : NO_PUPIL) due("PUPIL " + p, x.lesson(p, 0, true), UNKNOWN);
        for (int t : NO_THING) due("THING " + t, x.lesson(0, t, true), UNKNOWN);
        due("both", x.lesson(2, 1, false), UNKNOWN);
        Due.levels("nothing changed", x, 0, 3, 8);
        due("nor was drawn", x.seed(0), 0);
        due("no school", new LeastTeaches().lesson(0, 0, false), UNKNOWN);
        due("no THINGS", Due.of("pupil 1 0 0;").lesson(0, 0, false), UNKNOWN);
        due("the turn stays", x.lesson(0, 0, false) + x.count(5), 0);
    }

    private static void exactly() {
        Due.sentence("EXACT: what = 0 RIGHT, 1 NO if wrong, 2 NO if RIGHT, 3 the mean. UNKNOWN, OUTSIDE.");
        LeastTeaches x = Due.at(3, 8);
        int[] want = {35, 800000, 50000, 520 - 17 + 332};
        for (int w = 0; w < 4; w++) due("what = " + w, x.exact(0, 0, w), want[w]);
        for (int p : NO_PUPIL) due("PUPIL " + p, x.exact(p, 0, 0), UNKNOWN);
        for (int t : NO_THING) due("THING " + t, x.exact(0, t, 0), UNKNOWN);
        for (int w : new int[] {MIN, -1, 4, MAX}) {
            due("what = " + w, x.exact(0, 0, w), OUTSIDE);
            due("UNKNOWN ahead of it", x.exact(2, 0, w), UNKNOWN);
            due("UNKNOWN ahead of it", x.exact(0, 1, w), UNKNOWN);
        }
        Due.levels("it is not held", x, 0, 3, 8);
    }

    private static void behinds() {
        Due.sentence("ODDS behind n DRAWN LESSONS (0 .. 20): what = 0 that all KNOW the THING (of a MILLION: / 1000, cut), 1 that nobody "
            + "does, likewise, 2 and p the mean LEVEL of PUPIL p, in thousandths (the sum of odds times LEVEL / MILLION, cut). "
            + "UNKNOWN, OUTSIDE, NOT: no PUPILS, or more than 3.");
        LeastTeaches x = Due.at(8, 9);
        due("n = 0", x.behind(0, 0, 0, 0), 0);
        due("n = 1: told NO .15 * .9, or RIGHT", x.behind(0, 0, 1, 0), 985000);
        due("n = 20", x.behind(0, 0, 20, 0), 999999);
        due("nobody", x.behind(0, 0, 20, 1), 0);
        due("the mean of 0", x.behind(0, 0, 1, 2), 8985);
        due("the mean of 1", x.behind(0, 0, 1, 3), 9000);
        due("three at 9", Due.at(9, 9, 9).behind(0, 0, 20, 4), 9000);
        for (int n : new int[] {MIN, -1, 21, MAX}) due("n = " + n, x.behind(0, 0, n, 0), OUTSIDE);
        for (int w : new int[] {MIN, -1, 4, 5, 8, MAX}) due("what = " + w, x.behind(0, 0, 1, w), OUTSIDE);
        for (int rule : NO_RULE) due("RULE " + rule, x.behind(rule, 0, 0, 0), UNKNOWN);
        for (int t : NO_THING) due("THING " + t, x.behind(0, t, 0, 0), UNKNOWN);
        due("UNKNOWN ahead of OUTSIDE", x.behind(0, 1, 21, 9), UNKNOWN);
        due("UNKNOWN ahead of OUTSIDE", x.behind(3, 0, 21, 9), UNKNOWN);
        due("one PUPIL", Due.at(9).behind(0, 0, 0, 2), 9000);
        due("there is no PUPIL 1", Due.at(9).behind(0, 0, 0, 3), OUTSIDE);
        due("no PUPIL 3 of three", Due.at(9, 9, 9).behind(0, 0, 0, 5), OUTSIDE);
        LeastTeaches none = Due.of("thing;");
        due("no PUPILS", none.behind(0, 0, 0, 0), NOT);
        due("no PUPILS", none.behind(0, 0, 0, 1), NOT);
        due("no PUPILS, OUTSIDE first", none.behind(0, 0, 21, 1), OUTSIDE);
        due("no PUPILS, UNKNOWN first", none.behind(0, 1, 0, 1), UNKNOWN);
        LeastTeaches four = Due.at(9, 9, 9, 9);
        for (int w = 0; w < 6; w++) due("4 PUPILS", four.behind(0, 0, 0, w), NOT);
        due("4 PUPILS, OUTSIDE first", four.behind(0, 0, -1, 0), OUTSIDE);
        due("4 PUPILS, UNKNOWN first", four.behind(3, 0, -1, 0), UNKNOWN);
        due("6 PUPILS", Due.at(9, 9, 9, 9, 9, 9).behind(0, 0, 20, 0), NOT);
        Due.levels("it is tried", x, 0, 8, 9);
    }

    private static void ups() {
        Due.sentence("Who stands up by a RULE. UNKNOWN, NOT: there are no PUPILS.");
        LeastTeaches x = Due.at(8, 3);
        due("RULE 0", x.up(0, 0), 1);
        due("RULE 1", x.up(1, 0), 0);
        due("RULE 2", x.up(2, 0), 0);
        for (int rule : NO_RULE) due("RULE " + rule, x.up(rule, 0), UNKNOWN);
        for (int t : NO_THING) due("THING " + t, x.up(0, t), UNKNOWN);
        for (int rule = 0; rule < 3; rule++) due("no PUPILS", Due.of("thing;").up(rule, 0), NOT);
        due("UNKNOWN ahead of NOT", Due.of("thing;").up(0, 1), UNKNOWN);
        due("UNKNOWN ahead of NOT", Due.of("thing;").up(3, 0), UNKNOWN);
        due("nothing at all", new LeastTeaches().up(0, 0), UNKNOWN);
        due("the turn stays", x.count(5), 0);
    }

    private static void runs() {
        Due.sentence("n LESSONS (1 .. 99) of a THING by a RULE (by 1 the turn goes on, PUPIL by PUPIL): how many KNOW it then. UNKNOWN, "
            + "OUTSIDE, NOT: there are no PUPILS.");
        LeastTeaches x = Due.at(7, 8);
        due("n = 1", x.run(2, 0, 1, false), 1);
        Due.levels("1 was RIGHT", x, 0, 8, 9);
        due("n = 99", x.run(0, 0, 99, false), 2);
        for (int n : new int[] {MIN, -1, 0, 100, MAX}) due("n = " + n, x.run(1, 0, n, true), OUTSIDE);
        for (int rule : NO_RULE) due("RULE " + rule, x.run(rule, 0, 1, true), UNKNOWN);
        for (int t : NO_THING) due("THING " + t, x.run(1, t, 1, true), UNKNOWN);
        due("UNKNOWN ahead of OUTSIDE", x.run(1, 1, 0, true), UNKNOWN);
        due("UNKNOWN ahead of OUTSIDE", x.run(3, 0, 0, true), UNKNOWN);
        due("what is refused draws nothing, and no turn goes on", x.seed(0) + x.count(5), 0);
        due("no PUPILS", Due.of("thing;").run(0, 0, 1, false), NOT);
        due("no PUPILS, OUTSIDE first", Due.of("thing;").run(0, 0, 100, false), OUTSIDE);
        due("no PUPILS, UNKNOWN first", Due.of("thing;").run(3, 0, 100, false), UNKNOWN);
        x = Due.at(0, 0, 0, 0);
        due("nobody KNOWS", x.run(1, 0, 99, false), 0);
        due("99 turns of 4", x.count(5), 3);
        x.run(1, 0, 1, false);
        due("and PUPIL 0's", x.count(5), 0);
        x.run(0, 0, 5, false);
        x.run(2, 0, 5, false);
        due("by 0 and 2 the turn stays", x.count(5), 0);
        LeastTeaches once = Due.one(3, 50, 50, 2, 1, 90, 10, 5, 2, 0, 100, 4), one = Due.one(3, 50, 50, 2, 1, 90, 10, 5, 2, 0, 100, 4);
        for (int rule = 0; rule < 3; rule++) {
            once.run(rule, 0, 7, true);
            for (int k = 0; k < 7; k++) one.run(rule, 0, 1, true);
            Due.levels("seven in one, or one by one", once, 0, one.level(0, 0), one.level(1, 0), one.level(2, 0));
        }
        due("THE SEED", once.seed(0), one.seed(0));
        due("whose turn", once.count(5), one.count(5));
    }

    private static void masters() {
        Due.sentence("A MASTER tells, once: how many rose. UNKNOWN, NOT: there are no PUPILS.");
        LeastTeaches x = Due.at(9, 8, 0, 9);
        due("two rose", x.master(0), 2);
        Due.levels("by 1", x, 0, 9, 9, 1, 9);
        due("one rose", x.master(0), 1);
        x = Due.at(3, 3, 3);
        due("all alike", x.master(0), 0);
        due("one PUPIL", Due.at(0).master(0), 0);
        due("the GUEST tells nothing", visited(Due.at(0, 0)).master(0), 0);
        x = Due.of("thing;thing on 0;pupil 5 0 0 4,4;pupil 5 0 0 4,3;pupil 5 0 0 0,9;pupil 5 0 0 0,5;");
        due("who is held at 4 does not rise", x.master(1), 1);
        Due.levels("3 to 4", x, 1, 4, 4, 9, 5);
        for (int t : new int[] {MIN, -1, 2, 6, MAX}) due("THING " + t, x.master(t), UNKNOWN);
        due("no PUPILS", Due.of("thing;").master(0), NOT);
        due("UNKNOWN ahead of NOT", Due.of("thing;").master(1), UNKNOWN);
        due("no DRAW, no turn", x.seed(0) + x.count(5), 0);
    }

    private static void summers() {
        Due.sentence("A SUMMER: how many LEVELS are less. OUTSIDE.");
        LeastTeaches x = Due.of("thing;thing;pupil 1 0 0 0,1;pupil 1 0 0 8,9;");
        due("f = 0", x.summer(0), 0);
        due("f = 1", x.summer(1), 3);
        Due.levels("f = 1", x, 0, 0, 7);
        Due.levels("f = 1", x, 1, 0, 8);
        due("f = 9", x.summer(9), 2);
        due("f = 9 again", x.summer(9), 0);
        for (int f : new int[] {MIN, -1, 10, MAX}) due("f = " + f, x.summer(f), OUTSIDE);
        due("no school", new LeastTeaches().summer(9), 0);
        due("no school", new LeastTeaches().summer(10), OUTSIDE);

        Due.sentence("A SUMMER: each LEVEL falls by f (0 .. 9), not below 0.");
        for (int f = 0; f <= 9; f++) {
            for (int l = 0; l <= 9; l++) {
                x = Due.of("thing;thing on 0;pupil 1 0 0 " + l + "," + (9 - l) + ";");
                due("less by " + f, x.summer(f), (f > 0 && l > 0 ? 1 : 0) + (f > 0 && l < 9 ? 1 : 0));
                due("from " + l + " by " + f, x.level(0, 0), Math.max(0, l - f));
                due("from " + (9 - l) + " by " + f, x.level(0, 1), Math.max(0, 9 - l - f));
            }
        }
    }

    public static void main(String[] args) {
        whoListens();
        rightness();
        surer();
        corrected();
        misled();
        shaken();
        agreed();
        ends();
        likely();
        seeds();
        drawsInOrder();
        drawsForEach();
        exactNo();
        exactMean();
        exactCuts();
        odds();
        oddsOfRight();
        oddsOfNo();
        oddsOfBelief();
        oddsByTurns();
        rules();
        lessons();
        exactly();
        behinds();
        ups();
        runs();
        masters();
        summers();
        Due.end("LessonBoundsTest");
    }
}
