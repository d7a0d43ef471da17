/** Each promise of the document by cases worked out by hand: ordinary inputs, the edges that it names, wrong inputs. */
public final class PromiseTest {
    private static final int NONE = LeastTeaches.NONE, UNKNOWN = LeastTeaches.UNKNOWN, OUTSIDE = LeastTeaches.OUTSIDE,
        NOT = LeastTeaches.NOT, FULL = LeastTeaches.FULL;
    private static final int MIN = Integer.MIN_VALUE, MAX = Integer.MAX_VALUE;
    private static final String THREE = "thing;thing on 0;thing on 0,1;pupil 2 40 0 3,1,0;pupil 1 60 50 6,2,0;pupil 3 0 100 7,6,1;";
    private static int checks = 0;
    private static int wrong = 0;

    private static void due(int promise, String what, long got, long want) {
        checks++;
        if (got != want) {
            wrong++;
            System.out.println("promise " + promise + ": " + what + " is " + got + ", due is " + want);
        }
    }

    private static void feed(LeastTeaches x, String text) {
        for (int i = 0; i < text.length(); i++) x.feed(1, text.charAt(i));
    }

    private static LeastTeaches of(String text) {
        LeastTeaches x = new LeastTeaches();
        feed(x, text);
        int pupils = x.school();
        due(3, "school() of " + text + " with the fault at " + x.fault(), pupils < 0 ? pupils : 0, 0);
        return x;
    }

    /** One THING; PUPILS told by QUICK, BELIEF, PRIDE, LEVEL. */
    private static LeastTeaches one(int... told) {
        StringBuilder s = new StringBuilder("thing;");
        for (int i = 0; i + 3 < told.length; i += 4) {
            s.append("pupil ").append(told[i]).append(' ').append(told[i + 1]).append(' ').append(told[i + 2]).append(' ').append(told[i + 3]).append(';');
        }
        return of(s.toString());
    }

    private static void levels(int promise, String what, LeastTeaches x, int t, int... want) {
        for (int p = 0; p < want.length; p++) due(promise, what + ": LEVEL of " + p, x.level(p, t), want[p]);
    }

    private static void newObject() {
        LeastTeaches x = new LeastTeaches();
        for (int w = 0; w < 6; w++) due(1, "count(" + w + ")", x.count(w), 0);
        due(1, "fault()", x.fault(), NONE);
        due(1, "seed(0)", x.seed(0), 0);
        due(1, "level(0, 0)", x.level(0, 0), UNKNOWN);
        due(1, "goBack(0)", x.goBack(0), NOT);
        due(1, "guest(false)", x.guest(false), 0);
        due(1, "constants", LeastTeaches.NONE == -1 && UNKNOWN == -1000001 && OUTSIDE == -1000002 && NOT == -1000003 && FULL == -1000004 ? 1 : 0, 1);
    }

    private static void feeding() {
        LeastTeaches x = new LeastTeaches();
        due(2, "no bytes", x.feed(0, 1), OUTSIDE);
        due(2, "nine bytes", x.feed(9, 1), OUTSIDE);
        due(2, "less than none", x.feed(MIN, 1), OUTSIDE);
        due(2, "the lowest 5 of 8", x.feed(5, 0x7a7a7a7075706cL << 8), 5);
        due(2, "refused changes nothing", x.count(2), 5);
        x.school();
        due(2, "'thing;' in one", x.feed(6, 0xff00L << 48 | 0x7468696e673bL), 6);
        due(2, "a school", x.school(), 0);
        due(2, "one thing", x.count(1), 1);
        for (int i = 0; i < 49; i++) x.feed(8, 0x2020202020202020L);
        due(2, "393", x.feed(1, ' '), 393);
        due(2, "too many", x.feed(8, -1L), FULL);
        due(2, "OUTSIDE ahead of FULL", x.feed(9, -1L), OUTSIDE);
        due(2, "400", x.feed(7, 0x20202020202020L), 400);
        due(2, "401", x.feed(1, ' '), FULL);
        due(2, "blanks alone", x.school(), 0);
        due(2, "no fault in blanks", x.fault(), NONE);
        due(2, "no things in blanks", x.count(1), 0);
    }

    private static void faulty(String text, int number, int at) {
        LeastTeaches x = of("thing;pupil 1 0 0 4;");
        x.guest(true);
        x.log(0, 0);
        x.keep(0);
        feed(x, text);
        due(3, "school() of '" + text + "'", x.school(), number == 0 ? x.count(0) : -10 - number);
        due(4, "fault() of '" + text + "'", x.fault(), at);
        due(3, "the text is empty behind '" + text + "'", x.count(2), 0);
        if (number != 0) {
            due(3, "all else is as it was", x.count(0) * 1000 + x.count(1) * 100 + x.count(3) * 10 + x.count(4), 1111);
            due(3, "LEVELS are as they were", x.level(0, 0), 4);
            due(3, "images are as they were", x.goBack(0), 1);
        }
    }

    private static void schools() {
        faulty("", 0, NONE);
        faulty("   ", 0, NONE);
        faulty("thing;", 0, NONE);
        faulty(" thing ; thing on0 , 001;pupil5 100 100 9 , 0 ;", 2, 21);
        faulty(" thing ; thing on0 ;pupil5 100 100 9 , 0 ;", 0, NONE);
        faulty("pupil 1 000 00 ;", 0, NONE);
        faulty("pupil 1 0 0 1;", 1, 12);
        faulty("pupil 0 0 0;", 2, 6);
        faulty("pupil 6 0 0;", 2, 6);
        faulty("pupil 1 101 0;", 2, 8);
        faulty("pupil 1 0 101;", 2, 10);
        faulty("pupil 1 0000 0;", 2, 8);
        faulty("pupil 12345678901234567890 0 0;", 2, 6);
        faulty("pupil 1,0 0;", 1, 7);
        faulty("pupil 1 0 0", 1, 11);
        faulty("pupil 1 0 0  ", 1, 13);
        faulty("pupil", 1, 5);
        faulty("pupils 1 0 0;", 1, 0);
        faulty("thin", 1, 0);
        faulty("thinga;", 1, 0);
        faulty("thingz;", 1, 0);
        faulty("thing`;", 1, 5);
        faulty("thing{;", 1, 5);
        faulty("hhing;", 1, 0);
        faulty("th ing;", 1, 0);
        faulty("Thing;", 1, 0);
        faulty("thing;;", 1, 6);
        faulty(";", 1, 0);
        faulty("7;", 1, 0);
        faulty("1234;", 1, 0);
        faulty("thing,", 1, 5);
        faulty("thingon 0;", 1, 0);
        faulty("thing thing;", 1, 6);
        faulty("thing 0;", 1, 6);
        faulty("thing on;", 1, 8);
        faulty("thing on on 0;", 1, 9);
        faulty("thing on 0;", 2, 9);
        faulty("thing;thing on 1;", 2, 15);
        faulty("thing;thing on 0000;", 2, 15);
        faulty("thing;thing on 0,;", 1, 17);
        faulty("thing;thing on 0 0;", 1, 17);
        faulty("thing;thing on 0,00;", 3, 17);
        faulty("thing;thing on 0,1;", 2, 17);
        faulty("thing;thing on 0x;", 1, 16);
        faulty("thing" + (char) 200 + ";", 1, 5);
        faulty("thing" + (char) 0 + ";", 1, 5);
        faulty("thing;pupil 1 0 0;", 1, 17);
        faulty("thing;pupil 1 0 0 10;", 2, 18);
        faulty("thing;pupil 1 0 0 1,1;", 1, 19);
        faulty("thing;pupil 1 0 0,1;", 1, 17);
        faulty("thing;thing;pupil 1 0 0 1;", 1, 25);
        faulty("thing;thing;pupil 1 0 0 1 1;", 1, 26);
        faulty("thing;thing;pupil 1 0 0 1,1,1;", 1, 27);
        faulty("thing;pupil 1 0 0 1;thing;", 4, 20);
        faulty("pupil 1 0 0; thing", 4, 13);
        faulty("pupil 1 0 0; things", 1, 13);
        faulty("thing;thing;thing;thing;thing;thing;", 0, NONE);
        faulty("thing;thing;thing;thing;thing;thing; thing;", 4, 37);
        String six = "pupil 1 0 0;pupil 1 0 0;pupil 1 0 0;pupil 1 0 0;pupil 1 0 0;pupil 1 0 0;";
        faulty(six, 0, NONE);
        faulty(six + "pupil", 4, 72);

        LeastTeaches x = of(THREE);
        x.seed(77);
        x.guest(true);
        x.log(0, 0);
        x.keep(0);
        x.keep(1);
        x.run(1, 0, 2, false);
        due(3, "a turn", x.count(5), 2);
        feed(x, "thing;pupil 1 0 0 8;");
        due(3, "a new school", x.school(), 1);
        due(3, "no GUEST", x.count(4), 0);
        due(3, "THE LOG is empty", x.count(3), 0);
        due(3, "IMAGE 0 is gone", x.goBack(0), NOT);
        due(3, "IMAGE 1 is gone", x.goBack(1), NOT);
        due(3, "PUPIL 0's turn", x.count(5), 0);
        due(3, "THE SEED stays", x.seed(1), 77);
        due(3, "its LEVEL", x.level(0, 0), 8);
        due(3, "no PUPIL 1 any more", x.level(1, 0), UNKNOWN);
        due(3, "FEWEST is of the new school", x.fewest(0), 1);
        due(4, "a fault is gone", x.fault(), NONE);
    }

    private static void asked() {
        LeastTeaches x = of(THREE);
        feed(x, "abc");
        x.log(2, 2);
        x.guest(true);
        x.run(1, 2, 1, false);
        int[] want = {3, 3, 3, 1, 1, 1};
        for (int w = 0; w < 6; w++) due(5, "count(" + w + ")", x.count(w), want[w]);
        due(5, "count(-1)", x.count(-1), OUTSIDE);
        due(5, "count(6)", x.count(6), OUTSIDE);

        x = of("thing;thing;pupil 2 40 7 9,3;pupil 5 100 0 9,9;");
        int[][] of = {{2, 40, 7, 1, 12}, {5, 100, 0, 2, 18}};
        for (int p = 0; p < 2; p++) for (int w = 0; w < 5; w++) due(6, "pupil(" + p + ", " + w + ")", x.pupil(p, w), of[p][w]);
        due(6, "pupil(0, 5)", x.pupil(0, 5), OUTSIDE);
        due(6, "pupil(0, -1)", x.pupil(0, -1), OUTSIDE);
        due(6, "pupil(2, 9)", x.pupil(2, 9), UNKNOWN);
        due(6, "pupil(-1, 0)", x.pupil(-1, 0), UNKNOWN);

        x = of("thing;thing;thing on 1;thing on 2,0;thing on 3,1,0,2;thing on 4;pupil 1 0 0 1,2,3,4,5,6;");
        int[] sets = {0, 0, 2, 5, 15, 16};
        for (int t = 0; t < 6; t++) due(7, "leans(" + t + ")", x.leans(t), sets[t]);
        due(7, "leans(6)", x.leans(6), UNKNOWN);
        due(7, "leans(-1)", x.leans(-1), UNKNOWN);
        for (int t = 0; t < 6; t++) due(8, "level(0, " + t + ")", x.level(0, t), t + 1);
        due(8, "level(0, 6)", x.level(0, 6), UNKNOWN);
        due(8, "level(1, 0)", x.level(1, 0), UNKNOWN);
        due(8, "level(MIN, MAX)", x.level(MIN, MAX), UNKNOWN);
        int[] can = {8, 7, 1, 0, 0, 3};
        for (int t = 0; t < 6; t++) due(9, "rises(0, " + t + ")", x.rises(0, t), can[t]);
        due(9, "rises(1, 0)", x.rises(1, 0), UNKNOWN);
        due(9, "rises(0, -1)", x.rises(0, -1), UNKNOWN);
        x = of("thing;thing on 0;pupil 1 0 0 4,9;pupil 1 0 0 5,9;pupil 1 0 0 5,0;pupil 1 0 0 4,0;");
        due(9, "above 4 and held", x.rises(0, 1), 0);
        due(9, "at 9", x.rises(1, 1), 0);
        due(9, "at 5 of what it leans on", x.rises(2, 1), 9);
        due(9, "at 4 of what it leans on", x.rises(3, 1), 4);

        due(10, "guest(true)", x.guest(true), 0);
        due(10, "guest(true) again", x.guest(true), 1);
        due(10, "it is there", x.count(4), 1);
        due(10, "guest(false)", x.guest(false), 1);
        due(10, "it is gone", x.count(4), 0);
    }

    private static void likelyLessons() {
        LeastTeaches x = one(2, 0, 0, 3, 1, 0, 0, 6, 1, 0, 0, 4, 1, 0, 0, 5);
        due(11, "wrong with NO", x.lesson(0, 0, false), 0);
        levels(11, "QUICK, and 1 for NO", x, 0, 5, 7, 4, 6);
        due(11, "RIGHT without", x.lesson(3, 0, false), 3);
        levels(11, "not greater LEVELS rise", x, 0, 6, 7, 5, 7);
        x = one(5, 0, 0, 4, 1, 50, 0, 4, 1, 49, 0, 4, 1, 100, 0, 0);
        due(11, "wrong without NO", x.lesson(0, 0, false), 1);
        levels(11, "BELIEF 50 falls, 49 not, 0 cannot", x, 0, 4, 3, 4, 0);
        due(11, "who stands does not fall", x.lesson(1, 0, false), 1);
        levels(11, "all stay", x, 0, 4, 3, 4, 0);
        x = one(5, 100, 0, 4, 1, 100, 0, 1);
        x.guest(true);
        due(11, "the GUEST says NO", x.lesson(0, 0, false), 0);
        levels(11, "to 9 by QUICK", x, 0, 9, 1);
        due(11, "one at 9 is RIGHT", x.lesson(0, 0, false), 3);
        levels(11, "9 at most", x, 0, 9, 2);
        x = of("thing;thing on 0;pupil 5 0 0 4,1;pupil 1 0 0 4,6;pupil 1 0 0 5,5;");
        due(11, "held at 4", x.lesson(0, 1, false), 0);
        levels(11, "who is held rises to 4, above it not at all", x, 1, 4, 6, 6);
        due(11, "UNKNOWN", x.lesson(3, 0, false), UNKNOWN);
        due(11, "UNKNOWN", x.lesson(0, 2, true), UNKNOWN);
        due(11, "UNKNOWN", x.lesson(-1, -1, true), UNKNOWN);
        due(11, "UNKNOWN draws nothing", x.seed(0), 0);
    }

    /** From 1 the draws of 100 are 38, 58, 13, 15, 51, 27, 10, 19, 12, 86; from 0: 0, 68, 88, 17, 98, 27. */
    private static void drawnLessons() {
        LeastTeaches x = one(2, 0, 0, 3, 1, 0, 0, 6);
        x.seed(1);
        due(11, "38 of 35, 58 of 60", x.lesson(0, 0, true), 0);
        levels(11, "taught", x, 0, 5, 7);
        due(11, "13 of 55, 15 of 10", x.lesson(0, 0, true), 3);
        levels(11, "RIGHT", x, 0, 6, 7);
        due(11, "51 of 65, 27 of 10", x.lesson(0, 0, true), 3);
        due(11, "10 of 75, none SURER", x.lesson(0, 0, true), 3);
        levels(11, "both", x, 0, 8, 8);
        x = one(1, 0, 0, 3);
        x.seed(1);
        due(11, "38 of 35, nobody else", x.lesson(0, 0, true), 1);
        due(30, "one draw from 1", x.seed(MAX), 1103527590);
        x.lesson(0, 0, true);
        due(30, "one draw from 2147483647", x.seed(0), (int) ((MAX * 1103515245L + 12345L) % (1L << 31)));
        x = one(1, 0, 100, 4, 1, 0, 0, 5, 1, 0, 0, 0, 1, 0, 0, 8);
        due(11, "0 of 45; 68 of 20, 88 of 5", x.lesson(0, 0, true), 3);
        levels(11, "RIGHT", x, 0, 5, 5, 1, 8);
        x.seed(1103527590);
        due(11, "58 of 55, 13 of 80", x.lesson(0, 0, true), 0);
        levels(11, "taught", x, 0, 6, 5, 1, 9);
        x = one(1, 0, 52, 1, 1, 0, 0, 6);
        x.seed(seedAhead(13, 2));
        due(11, "13 of 15, 15 of 15, 51 of no PRIDE asked", x.lesson(0, 0, true), 3);
        x = one(1, 0, 52, 1, 1, 0, 0, 5);
        x.seed(seedAhead(13, 2));
        due(11, "13 of 15, 15 of 20, 51 of 52", x.lesson(0, 0, true), 2);
        levels(11, "PRIDE stays", x, 0, 1, 5);
        x = one(1, 0, 51, 1, 1, 0, 0, 5);
        x.seed(seedAhead(13, 2));
        due(11, "13 of 15, 15 of 20, 51 of 51", x.lesson(0, 0, true), 2);
        levels(11, "falls", x, 0, 0, 5);
        x = one(1, 0, 0, 0, 1, 58, 0, 1, 1, 14, 0, 6, 1, 100, 0, 7);
        x.seed(seedAhead(27, 5));
        due(11, "27 of 5; 10 of 10, 19 of 60, 12 of 70", x.lesson(0, 0, true), 0);
        levels(11, "two said NO", x, 0, 1, 1, 7, 8);
        x = one(1, 0, 0, 0, 1, 0, 0, 0, 1, 59, 0, 1, 1, 13, 0, 6);
        x.seed(1);
        due(11, "38 of 5; 58 of 10, 13 of 60", x.lesson(0, 0, true), 0);
        x = one(1, 0, 0, 6, 1, 59, 0, 6, 1, 13, 0, 1, 1, 100, 0, 0);
        x.seed(seedAhead(86, 9));
        due(11, "86 of 65, none SURER", x.lesson(0, 0, true), 1);
        x = one(1, 0, 0, 3, 1, 59, 0, 3, 1, 13, 0, 1, 1, 100, 0, 0, 1, 16, 0, 2);
        x.seed(1);
        due(11, "38 of 35; BELIEF 58 of 59, 13 of 13, 15 of 16", x.lesson(0, 0, true), 1);
        levels(11, "two fell", x, 0, 3, 2, 1, 0, 1);
        x = one(1, 0, 0, 3);
        x.guest(true);
        x.seed(1);
        due(11, "38 of 35; the GUEST 58 of 90", x.lesson(0, 0, true), 0);
        levels(11, "taught by the GUEST", x, 0, 4);
        due(11, "13 of 45, the GUEST 15 of 0", x.lesson(0, 0, true), 3);
        due(30, "four draws", x.seed(0), seedAhead(51, 4));
    }

    /** THE SEED ahead of the n-th draw (from 0 on) from 1, which is that. */
    private static int seedAhead(int drawn, int n) {
        long s = 1;
        for (int k = 0; k < n; k++) s = (s * 1103515245L + 12345L) % (1L << 31);
        long next = (s * 1103515245L + 12345L) % (1L << 31);
        due(30, "draw " + n, next / 65536 % 100, drawn);
        return (int) s;
    }

    private static void exactOdds() {
        LeastTeaches x = of(THREE);
        int[][] want = {{35, 880000, 235000, 1329}, {65, 700000, 100000, 798}, {75, 0, 0, 750}};
        for (int p = 0; p < 3; p++) for (int w = 0; w < 4; w++) due(12, "exact(" + p + ", 0, " + w + ")", x.exact(p, 0, w), want[p][w]);
        x.guest(true);
        due(12, "6 with 7 and the GUEST, wrong", x.exact(1, 0, 1), 970000);
        due(12, "6 with 7 and the GUEST, RIGHT", x.exact(1, 0, 2), 100000);
        due(12, "7 with the GUEST", x.exact(2, 0, 1), 900000);
        due(12, "7 rises by 2 at most: 2000 * 25 / 100 * 9 / 10 + 750", x.exact(2, 0, 3), 1200);
        due(12, "1 with 2, 6 and the GUEST: .8 * .4 * .1 are silent", x.exact(0, 1, 1), 968000);
        x = one(1, 0, 33, 3, 1, 0, 0, 4, 1, 0, 0, 5, 1, 0, 0, 6);
        due(12, "cut: 600000, 300000, 120000", x.exact(0, 0, 1), 880000);
        due(12, "cut: 750000, 600000, 510000", x.exact(0, 0, 2), 490000);
        due(12, "650 * .88 = 572, 350 * .49 = 171 * 67 / 100 = 114, 350 * .51 = 178", x.exact(0, 0, 3), 636);
        x = one(5, 0, 0, 9, 5, 0, 0, 0);
        due(12, "at 9", x.exact(0, 0, 3), 0);
        due(12, "at 0: 5000 * 95 / 100 * 9 / 10; falls by nothing", x.exact(1, 0, 3), 4275 + 50);
        x = of("thing;thing on 0;pupil 5 0 0 4,7;pupil 5 0 100 4,3;pupil 1 0 0 0,8;");
        due(12, "above 4 and held: -750 * 5 / 100", x.exact(0, 1, 3), -37);
        due(12, "1 to 4: 650 * .94; PRIDE never falls; 350 * .855", x.exact(1, 1, 3), 611 + 299);
        due(12, "UNKNOWN", x.exact(3, 0, 0), UNKNOWN);
        due(12, "UNKNOWN ahead of OUTSIDE", x.exact(0, 2, 4), UNKNOWN);
        due(12, "OUTSIDE", x.exact(0, 0, 4), OUTSIDE);
        due(12, "OUTSIDE", x.exact(0, 0, -1), OUTSIDE);
    }

    private static void foreseen() {
        LeastTeaches x = one(1, 0, 0, 8);
        due(13, "none yet", x.behind(0, 0, 0, 0), 0);
        due(13, "nobody yet", x.behind(0, 0, 0, 1), 1000000);
        due(13, "85", x.behind(0, 0, 1, 0), 850000);
        due(13, "85 and 15 * 85", x.behind(1, 0, 2, 0), 977500);
        due(13, "what is left", x.behind(2, 0, 2, 1), 22500);
        due(13, "mean", x.behind(0, 0, 2, 2), 8977);
        x = one(2, 0, 50, 3, 1, 0, 0, 6);
        due(13, "A: .65 * .6 * 5 + .65 * .4 * 3 + .35 * .15 * (3 / 2 + 2 / 2) + .35 * .85 * 4", x.behind(0, 0, 1, 2), 4051);
        due(13, "B: 6 + .65 * .6", x.behind(0, 0, 1, 3), 6390);
        due(13, "the greatest stands up: 6 + .65, 3 and .65", x.behind(2, 0, 1, 3), 6650);
        due(13, "the greatest stands up: 3 + .65", x.behind(2, 0, 1, 2), 3650);
        due(13, "it is tried", x.level(0, 0) * 10 + x.level(1, 0), 36);
        due(13, "no draws", x.seed(0), 0);
        x = one(1, 40, 0, 5, 1, 70, 0, 5, 1, 100, 0, 7);
        due(13, "5 + .55 * .9 - .45 * .3 * .7", x.behind(0, 0, 1, 3), 5400);
        due(13, "7 does not believe: 7 + .45 * .7", x.behind(0, 0, 1, 4), 7315);
        x = one(1, 0, 0, 8, 1, 0, 0, 8);
        x.run(1, 0, 1, false);
        due(13, "both know", x.behind(1, 0, 0, 0), 1000000);
        x = one(1, 0, 0, 0, 1, 0, 0, 8);
        due(13, "turn of 0: 8 + .95 * .8", x.behind(1, 0, 1, 3), 8760);
        x = one(1, 0, 0, 4, 1, 0, 0, 4);
        x.run(1, 0, 1, false);
        due(13, "turn of 1", x.behind(1, 0, 1, 2), 4450);
        x = of("thing;thing on 0;pupil 5 0 100 4,4;pupil 1 0 0 9,8;");
        due(13, "held at 4", x.behind(0, 1, 20, 2), 4000);
        x.guest(true);
        due(13, "with the GUEST: 4 is wrong .55, 8 says NO .8, or stands RIGHT", x.behind(0, 1, 1, 3), 8440);
        due(13, "UNKNOWN", x.behind(3, 0, 0, 0), UNKNOWN);
        due(13, "UNKNOWN", x.behind(-1, 0, 0, 0), UNKNOWN);
        due(13, "UNKNOWN ahead of OUTSIDE", x.behind(0, 2, 21, 0), UNKNOWN);
        due(13, "n = 21", x.behind(0, 0, 21, 0), OUTSIDE);
        due(13, "n = -1", x.behind(0, 0, -1, 0), OUTSIDE);
        due(13, "what = 4 of 2 PUPILS", x.behind(0, 0, 1, 4), OUTSIDE);
        due(13, "what = -1", x.behind(0, 0, 1, -1), OUTSIDE);
        due(13, "no PUPILS", of("thing;").behind(0, 0, 1, 0), NOT);
        x = one(1, 0, 0, 0, 1, 0, 0, 0, 1, 0, 0, 0, 1, 0, 0, 0);
        due(13, "4 PUPILS", x.behind(0, 0, 1, 0), NOT);
        due(13, "4 PUPILS, OUTSIDE first", x.behind(0, 0, 1, 6), OUTSIDE);
    }

    private static void standing() {
        LeastTeaches x = one(1, 0, 0, 5, 1, 0, 0, 2, 1, 0, 0, 9, 1, 0, 0, 2, 1, 0, 0, 5);
        due(14, "the least, the first of like ones", x.up(0, 0), 1);
        due(14, "by turns", x.up(1, 0), 0);
        due(14, "the greatest below 9, the first of like ones", x.up(2, 0), 0);
        x.run(1, 0, 3, false);
        due(14, "by turns", x.up(1, 0), 3);
        due(14, "UNKNOWN", x.up(3, 0), UNKNOWN);
        due(14, "UNKNOWN", x.up(-1, 0), UNKNOWN);
        due(14, "UNKNOWN", x.up(0, 1), UNKNOWN);
        due(14, "no PUPILS", of("thing;").up(0, 0), NOT);
        due(14, "UNKNOWN ahead of NOT", of("thing;").up(3, 0), UNKNOWN);
        x = one(1, 0, 0, 8);
        due(14, "one PUPIL", x.up(0, 0) + x.up(1, 0) + x.up(2, 0), 0);
        due(15, "one PUPIL", x.run(1, 0, 1, false), 1);
        due(15, "it is its turn again", x.count(5), 0);
        x = one(1, 0, 0, 9, 1, 0, 0, 9);
        due(14, "all at 9", x.up(2, 0) * 10 + x.up(0, 0), 0);
        x = one(1, 0, 0, 9, 1, 0, 0, 0);
        due(14, "9 is not below 9", x.up(2, 0), 1);

        x = one(2, 0, 0, 3, 1, 0, 0, 6, 1, 0, 0, 7);
        due(15, "two LESSONS", x.run(0, 0, 2, false), 0);
        levels(15, "0 stood up twice", x, 0, 6, 7, 8);
        due(15, "the turn stays", x.count(5), 0);
        due(15, "by turns", x.run(1, 0, 2, false), 0);
        levels(15, "0, then 1", x, 0, 8, 8, 8);
        due(15, "the turn went on", x.count(5), 2);
        due(15, "all know", x.run(1, 0, 1, false), 3);
        due(15, "and around", x.count(5), 0);
        due(15, "99", x.run(2, 0, 99, false), 3);
        due(15, "n = 0", x.run(0, 0, 0, false), OUTSIDE);
        due(15, "n = 100", x.run(0, 0, 100, true), OUTSIDE);
        due(15, "UNKNOWN ahead of OUTSIDE", x.run(0, 1, 100, true), UNKNOWN);
        due(15, "UNKNOWN", x.run(3, 0, 1, true), UNKNOWN);
        due(15, "no PUPILS", of("thing;").run(0, 0, 1, false), NOT);
        due(15, "OUTSIDE ahead of NOT", of("thing;").run(0, 0, 0, false), OUTSIDE);
        x = one(2, 0, 0, 3, 1, 0, 0, 6);
        x.seed(1);
        due(15, "drawn", x.run(0, 0, 4, true), 0);
        levels(15, "as by four lessons", x, 0, 8, 8);

        x = of("thing;thing on 0;pupil 1 0 0 4,4;pupil 1 0 0 9,3;pupil 1 0 0 9,7;pupil 1 0 0 9,7;pupil 1 0 0 0,6;");
        due(16, "who is less and can", x.master(1), 1);
        levels(16, "by one", x, 1, 4, 4, 7, 7, 6);
        due(16, "others", x.master(0), 2);
        levels(16, "by one", x, 0, 5, 9, 9, 9, 1);
        due(16, "no longer held", x.master(1), 2);
        LeastTeaches y = one(1, 0, 0, 3);
        y.guest(true);
        due(16, "the GUEST does not tell", y.master(0), 0);
        due(16, "UNKNOWN", x.master(2), UNKNOWN);
        due(16, "no PUPILS", of("thing;").master(0), NOT);

        x = of("thing;thing;pupil 1 0 0 0,1;pupil 1 0 0 2,9;");
        due(17, "none", x.summer(0), 0);
        due(17, "three", x.summer(2), 3);
        levels(17, "not below 0", x, 0, 0, 0);
        levels(17, "not below 0", x, 1, 0, 7);
        due(17, "one", x.summer(9), 1);
        due(17, "10", x.summer(10), OUTSIDE);
        due(17, "-1", x.summer(-1), OUTSIDE);
    }

    private static void howLong() {
        LeastTeaches x = of(THREE);
        due(18, "by the least", x.hours(0, 0), 5);
        due(18, "by turns", x.hours(1, 0), 5);
        due(18, "by the greatest", x.hours(2, 0), 6);
        due(18, "never", x.hours(0, 1), NONE);
        due(18, "it is tried", x.level(0, 0) * 10 + x.count(5), 30);
        due(18, "UNKNOWN", x.hours(3, 0), UNKNOWN);
        due(18, "UNKNOWN", x.hours(0, 3), UNKNOWN);
        due(18, "no PUPILS", of("thing;").hours(0, 0), NOT);
        due(18, "they know", one(1, 0, 0, 9).hours(1, 0), 0);
        x = one(5, 0, 0, 9, 1, 0, 0, 9, 1, 0, 0, 5);
        due(18, "a turn of 0", x.hours(1, 0), 4);
        x = one(5, 0, 0, 4, 1, 0, 0, 9);
        x.run(1, 0, 1, false);
        due(18, "known at once", x.hours(0, 0), 0);

        x = one(5, 100, 100, 0, 5, 100, 100, 0, 5, 100, 0, 9, 1, 0, 0, 5);
        due(19, "four", x.fewest(0), 6);
        int[] row = {0, 0, 0, 0, 1, 1};
        LeastTeaches y = one(5, 100, 100, 0, 5, 100, 100, 0, 5, 100, 0, 9, 1, 0, 0, 5);
        for (int j = 0; j < 6; j++) {
            int who = x.row(0, j);
            y.lesson(who, 0, false);
            if (j < 2) due(20, "row(0, " + j + ")", who, row[j]);
            due(20, "who is there", who >= 0 && who < 4 ? 1 : 0, 1);
        }
        levels(20, "THE ROW leads there", y, 0, 9, 9, 9, 9);
        due(22, "four", x.worth(0), 0);
        due(25, "four", x.order(NONE), 6);
        due(20, "not so many", x.row(0, 6), NONE);
        due(20, "below 0", x.row(0, -1), NONE);
        due(20, "far below", x.row(0, MIN), NONE);
        due(20, "UNKNOWN", x.row(1, 0), UNKNOWN);
        due(19, "UNKNOWN", x.fewest(1), UNKNOWN);
        due(19, "no PUPILS", of("thing;").fewest(0), 0);
        due(20, "no PUPILS", of("thing;").row(0, 0), NONE);
        due(21, "no PUPILS", of("thing;").stuck(0), 0);
        due(22, "no PUPILS", of("thing;").worth(0), 0);
        due(19, "they know", one(1, 0, 0, 9, 1, 0, 0, 9).fewest(0), 0);
        x = one(5, 0, 0, 4);
        due(19, "alone at 4", x.fewest(0), NONE);
        due(20, "alone at 4", x.row(0, 0), NONE);
        due(21, "alone at 4", x.stuck(0), 1);
        due(22, "300 less 1", x.worth(0), 299);
        due(22, "it is tried", x.count(4), 0);
        x.guest(true);
        due(19, "with the GUEST", x.fewest(0), 1);
        due(20, "with the GUEST", x.row(0, 0), 0);
        due(21, "with the GUEST", x.stuck(0), 0);
        due(22, "it counts both ways", x.worth(0), 299);
        due(22, "it is tried", x.count(4), 1);
        due(21, "UNKNOWN", x.stuck(1), UNKNOWN);
        due(22, "UNKNOWN", x.worth(-1), UNKNOWN);
        due(22, "alone at 5", one(1, 0, 0, 5).worth(0), 0);
        x = of("thing;thing on 0;pupil 1 0 0 4,8;");
        due(22, "NONE both times", x.worth(1), 0);
        due(21, "held", x.stuck(1), 1);
        due(19, "held, but all know", of("thing;thing on 0;pupil 1 0 0 0,9;").fewest(1), 0);
        x = one(1, 0, 0, 0, 1, 0, 0, 0, 1, 0, 0, 0, 1, 0, 0, 0, 1, 0, 0, 9);
        due(19, "5 PUPILS", x.fewest(0), NOT);
        due(20, "5 PUPILS", x.row(0, 0), NOT);
        due(20, "5 PUPILS, below 0", x.row(0, -1), NOT);
        due(21, "5 PUPILS", x.stuck(0), NOT);
        due(22, "5 PUPILS", x.worth(0), NOT);
        due(25, "5 PUPILS", x.order(0), NOT);
        due(25, "5 PUPILS", x.order(-9), NOT);
        due(19, "UNKNOWN ahead of NOT", x.fewest(1), UNKNOWN);

        due(23, "from 0 to 9", x.mastered(0), 9);
        due(23, "it is tried", x.level(0, 0), 0);
        due(23, "never", one(1, 0, 0, 8, 1, 0, 0, 8).mastered(0), NONE);
        due(23, "they know", one(1, 0, 0, 9).mastered(0), 0);
        due(23, "held", of("thing;thing on 0;pupil 1 0 0 4,1;pupil 1 0 0 0,9;").mastered(1), NONE);
        due(23, "UNKNOWN", x.mastered(1), UNKNOWN);
        due(23, "no PUPILS", of("thing;").mastered(0), NOT);
    }

    private static void seeming() {
        LeastTeaches x = one(1, 0, 0, 3, 5, 0, 0, 4, 1, 0, 0, 9);
        due(24, "1 stands up in place of 0: 9 less 4", x.pays(1, 0, 2, 1), 5);
        due(24, "like 0, which is less", x.pays(1, 0, 1, 1), 0);
        due(24, "as it is", x.pays(1, 0, 0, 1), 0);
        due(24, "0 goes on to stand up", x.pays(0, 0, 9, 2), 0);
        due(24, "2 stands up at 9", x.pays(2, 0, 9, 1), 0);
        due(24, "it is tried", x.level(1, 0), 4);
        x = one(1, 0, 0, 0, 5, 0, 0, 2, 1, 0, 0, 9);
        due(24, "below 0 is less than 0", x.pays(1, 0, 3, 1), 5);
        x = one(5, 0, 0, 4, 1, 0, 0, 4, 1, 0, 0, 5);
        due(24, "RIGHT twice or NO twice: 7 less 7", x.pays(2, 0, 9, 2), 0);
        due(24, "taught first: 5 less 4", x.pays(1, 0, 9, 1), 1);
        x = one(1, 0, 0, 3, 1, 100, 0, 4);
        due(24, "who stands up does not believe: 4 less 2", x.pays(1, 0, 2, 2), 2);
        due(24, "UNKNOWN", x.pays(3, 0, 0, 1), UNKNOWN);
        due(24, "UNKNOWN ahead of OUTSIDE", x.pays(0, 1, 10, 1), UNKNOWN);
        due(24, "s = 10", x.pays(0, 0, 10, 1), OUTSIDE);
        due(24, "s = -1", x.pays(0, 0, -1, 1), OUTSIDE);
        due(24, "n = 0", x.pays(0, 0, 1, 0), OUTSIDE);
        due(24, "n = 100", x.pays(0, 0, 1, 100), OUTSIDE);
        due(24, "n = 99", x.pays(0, 0, 1, 99), 0);
    }

    private static void order(String text, int lessons, int... things) {
        LeastTeaches x = of(text);
        due(25, "order(NONE) of " + text, x.order(NONE), lessons);
        for (int j = 0; j < things.length; j++) due(25, "order(" + j + ") of " + text, x.order(j), things[j]);
        due(25, "behind the last", x.order(things.length), NONE);
        due(25, "below NONE", x.order(-2), NONE);
        due(25, "far off", x.order(MAX), NONE);
    }

    private static void orders() {
        order("", 0);
        order("thing;thing;", 0, 0, 1);
        order("thing;thing;pupil 1 0 0 5,8;", 5, 0, 1);
        order("thing;thing on 0;pupil 1 0 0 5,8;", 5, 0, 1);
        order("thing;thing;thing on 1;pupil 1 0 0 5,8,7;", 7, 0, 1, 2);
        order("thing;thing on 0;thing;pupil 5 0 0 4,9,5;", NONE);
        order("thing;thing on 0;pupil 3 0 0 2,2;pupil 1 0 0 9,9;", 5 + 5, 0, 1);
        order("thing;thing on 0;pupil 1 0 0 2,5;pupil 1 0 0 9,9;", 7 + 4, 0, 1);
        order("thing;thing;thing on 1;thing on 2;pupil 1 0 0 8,8,8,8;pupil 1 0 0 8,4,4,9;pupil 1 0 0 9,9,9,9;", 1 + 5 + 5 + 1, 0, 1, 2, 3);
        order("thing;thing on 0;thing;pupil 1 0 0 9,3,2;pupil 1 0 0 9,9,9;", 6 + 7, 0, 1, 2);
        LeastTeaches x = of("thing;pupil 1 0 0 8;");
        due(25, "as things stand", x.order(NONE), 1);
        x.summer(4);
        due(25, "stuck", x.order(0), NONE);
        x.guest(true);
        due(25, "with the GUEST", x.order(NONE), 5);
        due(25, "it is tried", x.level(0, 0), 4);
    }

    private static void parted() {
        LeastTeaches x = one(5, 100, 100, 0, 5, 100, 100, 0, 5, 100, 0, 9, 1, 0, 0, 5);
        due(26, "the SET", x.classes(0, 0), 5);
        due(26, "how long", x.classes(0, 1), 5);
        x = one(1, 0, 0, 9, 1, 0, 0, 9, 1, 0, 0, 9, 1, 0, 0, 9, 1, 0, 0, 9);
        due(26, "the least SET", x.classes(0, 0), 1);
        due(26, "no time", x.classes(0, 1), 0);
        x = one(1, 0, 0, 4, 1, 0, 0, 9);
        x.guest(true);
        due(26, "0 alone never comes there, the GUEST does not help", x.classes(0, 0), NONE);
        due(26, "NONE", x.classes(0, 1), NONE);
        due(26, "the GUEST stays", x.count(4), 1);
        x = one(1, 0, 0, 4, 1, 0, 0, 9, 1, 0, 0, 5);
        due(26, "0 and 1, 2 alone", x.classes(0, 0), 3);
        due(26, "the longer one: 4 to 5, to 9", x.classes(0, 1), 5);
        due(26, "what = 2", x.classes(0, 2), OUTSIDE);
        due(26, "what = -1", x.classes(0, -1), OUTSIDE);
        due(26, "UNKNOWN ahead of OUTSIDE", x.classes(1, 2), UNKNOWN);
        due(26, "one PUPIL", one(1, 0, 0, 9).classes(0, 0), NONE);
        due(26, "no PUPILS", of("thing;").classes(0, 1), NONE);
        x = one(1, 0, 0, 9, 1, 0, 0, 9, 1, 0, 0, 9, 1, 0, 0, 9, 1, 0, 0, 9, 1, 0, 0, 9);
        due(26, "6 PUPILS", x.classes(0, 0), NOT);
        due(26, "6 PUPILS, OUTSIDE first", x.classes(0, 3), OUTSIDE);
    }

    private static void logs() {
        LeastTeaches x = of(THREE);
        due(29, "an empty LOG", x.judge(), NONE);
        due(27, "first", x.log(0, 0), 1);
        due(27, "second", x.log(0, 0), 2);
        due(27, "third", x.log(0, 0), 3);
        due(29, "0 has the least: 5, 6, then 7 with others at 7", x.judge(), NONE);
        due(27, "fourth", x.log(1, 0), 4);
        due(29, "1 has as much: 7 and 7", x.judge(), NONE);
        due(27, "another THING", x.log(2, 1), 5);
        due(29, "the first", x.judge(), 4);
        due(29, "it is tried", x.level(0, 0), 3);
        due(27, "UNKNOWN", x.log(3, 0), UNKNOWN);
        due(27, "UNKNOWN", x.log(0, 3), UNKNOWN);
        due(27, "UNKNOWN", x.log(-1, -1), UNKNOWN);
        due(27, "UNKNOWN changes nothing", x.count(3), 5);
        for (int k = 6; k <= 40; k++) due(27, "so many", x.log(1, 1), k);
        due(27, "FULL", x.log(1, 1), FULL);
        due(27, "UNKNOWN ahead of FULL", x.log(9, 1), UNKNOWN);
        due(28, "clear()", x.clear(), 40);
        due(28, "clear() again", x.clear(), 0);
        due(28, "none left", x.count(3), 0);
        due(29, "none WRONG", x.judge(), NONE);
        x.log(2, 0);
        due(29, "at once", x.judge(), 0);
        x = of("thing;thing on 0;pupil 1 0 0 4,4;pupil 1 0 0 9,5;pupil 1 0 0 9,5;");
        x.log(0, 0);
        x.log(0, 1);
        x.log(1, 1);
        due(29, "held no more once the first is taught: 5, 6, 6", x.judge(), 2);
        x = one(1, 0, 0, 4, 1, 0, 0, 4);
        x.guest(true);
        x.log(0, 0);
        x.log(0, 0);
        due(29, "the GUEST says NO: 5 is more than 4", x.judge(), 1);
    }

    private static void images() {
        LeastTeaches x = of(THREE);
        due(30, "0 at first", x.seed(5), 0);
        due(30, "what it was", x.seed(MAX), 5);
        due(30, "below 0", x.seed(-1), OUTSIDE);
        due(30, "below 0", x.seed(MIN), OUTSIDE);
        due(30, "what is refused changes nothing", x.seed(9), MAX);
        due(31, "-1", x.keep(-1), UNKNOWN);
        due(31, "2", x.keep(2), UNKNOWN);
        due(32, "-1", x.goBack(-1), UNKNOWN);
        due(32, "2", x.goBack(2), UNKNOWN);
        due(32, "not kept", x.goBack(1), NOT);
        due(31, "keep(1)", x.keep(1), 1);
        due(32, "0 is not kept by it", x.goBack(0), NOT);
        x.guest(true);
        x.run(1, 0, 1, true);
        x.log(0, 0);
        due(31, "keep(0)", x.keep(0), 1);
        int level = x.level(0, 0), seed = x.seed(0);
        x.seed(seed);
        x.summer(3);
        due(32, "goBack(1)", x.goBack(1), 1);
        levels(32, "LEVELS", x, 0, 3, 6, 7);
        levels(32, "LEVELS", x, 2, 0, 0, 1);
        due(32, "the GUEST", x.count(4), 0);
        due(32, "whose turn", x.count(5), 0);
        due(32, "THE SEED", x.seed(0), 9);
        due(32, "THE LOG is not kept", x.count(3), 1);
        due(32, "goBack(0)", x.goBack(0), 1);
        due(32, "LEVEL", x.level(0, 0), level);
        due(32, "the GUEST", x.count(4), 1);
        due(32, "whose turn", x.count(5), 1);
        due(32, "THE SEED", x.seed(0), seed);
        x.summer(9);
        due(32, "again", x.goBack(1), 1);
        levels(32, "an IMAGE stays as it was kept", x, 0, 3, 6, 7);
        x.summer(1);
        due(31, "kept anew", x.keep(1), 1);
        x.summer(9);
        x.goBack(1);
        levels(31, "what was so", x, 0, 2, 5, 6);
    }

    public static void main(String[] args) {
        newObject();
        feeding();
        schools();
        asked();
        likelyLessons();
        drawnLessons();
        exactOdds();
        foreseen();
        standing();
        howLong();
        seeming();
        orders();
        parted();
        logs();
        images();
        System.out.println("PromiseTest: " + checks + " checks, " + wrong + " wrong");
        if (wrong != 0) System.exit(1);
    }
}
