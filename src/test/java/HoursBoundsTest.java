import java.util.Random;

/** The bounds that the document names in part 3 and in promises 18 to 26, sentence by sentence. */
public final class HoursBoundsTest {
    private static final int NONE = Due.NONE, UNKNOWN = Due.UNKNOWN, OUTSIDE = Due.OUTSIDE, NOT = Due.NOT;
    private static final int MIN = Due.MIN, MAX = Due.MAX;
    private static final int[] NO_THING = {MIN, -1, 1, 2, 6, MAX}, NO_RULE = {MIN, -1, 3, 4, MAX};

    private static void due(String what, long got, long want) {
        Due.due(what, got, want);
    }

    private static LeastTeaches visited(LeastTeaches x) {
        x.guest(true);
        return x;
    }

    private static LeastTeaches nobody() {
        return Due.of("thing;");
    }

    // ---- part 3

    /** More than 54 LESSONS are never needed: so what is not there behind 300 never comes. */
    private static void hours() {
        Due.sentence("HOURS of a THING by a RULE: how many LIKELY LESSONS, tried from now, till all KNOW it; NONE: more than 300.");
        for (int rule = 0; rule < 3; rule++) {
            for (int l = 0; l <= 9; l++) {
                due("alone at " + l, Due.at(l).hours(rule, 0), l < 5 ? NONE : 9 - l);
                due("alone at " + l + " with the GUEST", visited(Due.at(l)).hours(rule, 0), 9 - l);
                due("two at " + l, Due.at(l, l).hours(rule, 0), l < 5 ? NONE : 9 - l);
            }
            due("nobody is RIGHT, nobody says NO", Due.at(4, 4, 4, 4, 4, 4).hours(rule, 0), NONE);
            due("held", Due.of("thing;thing on 0;pupil 5 0 0 4,8;").hours(rule, 1), NONE);
            due("held, but all KNOW", Due.of("thing;thing on 0;pupil 5 0 0 0,9;").hours(rule, 1), 0);
        }
        due("six, the least first: 25 till (9, 8, 7, 6, 5, 9), 4 more", Due.at(0, 0, 0, 0, 0, 9).hours(0, 0), 29);
        LeastTeaches x = Due.of("thing;thing;pupil 5 0 0 4,9;pupil 1 0 0 9,9;");
        due("from the turn of 0: 9 by QUICK", x.hours(1, 0), 1);
        x.run(1, 1, 1, false);
        due("from the turn of 1: 5, 6, 7, 8, 9", x.hours(1, 0), 5);
        due("no turn has gone on", x.count(5), 1);
        x = Due.one(1, 0, 0, 9, 1, 0, 0, 9, 5, 0, 0, 2);
        due("0, 1, then 2: 3, 4, 9", x.hours(1, 0), 3);
        x = Due.one(2, 0, 0, 0, 1, 0, 0, 9, 1, 0, 0, 9);
        due("0, 1, 2, then 0 again: 2, 3, 4, 6, 7, 8, 9", x.hours(1, 0), 7);
        x = Due.one(1, 0, 0, 4, 5, 0, 0, 4, 1, 0, 0, 9);
        due("0 is told NO: 5, 4; 1 is, and 0 says it, too: 6, 9; 7; 8; 9", x.hours(1, 0), 5);
        x.run(1, 0, 1, false);
        due("one less", x.hours(1, 0), 4);
        Due.levels("it is tried", x, 0, 5, 4, 9);
        due("no turn has gone on", x.count(5), 1);
    }

    private static int alone(int quick, int l, boolean guest) {
        int lessons = 0;
        for (int at = l; at < 9; at += at < 5 ? quick : 1) {
            if (at < 5 && !guest) return NONE;
            lessons++;
        }
        return lessons;
    }

    private static void fewest() {
        Due.sentence("FEWEST: likewise by whoever stands up when; NONE: it never comes.");
        for (int quick = 1; quick <= 5; quick++) {
            for (int l = 0; l <= 9; l++) {
                LeastTeaches x = Due.one(quick, 100, 0, l);
                due("alone at " + l, x.fewest(0), alone(quick, l, false));
                due("alone at " + l + " with the GUEST, QUICK " + quick, visited(x).fewest(0), alone(quick, l, true));
            }
        }
        for (int l = 0; l <= 9; l++) {
            for (int m = 0; m <= 9; m++) {
                boolean comes = Math.max(l, m) >= 5;
                due(l + " and " + m, Due.one(1, 100, 0, l, 1, 100, 0, m).fewest(0) == NONE ? 0 : 1, comes ? 1 : 0);
                due(l + " and 9", Due.one(1, 100, 0, l, 1, 100, 0, 9).fewest(0), 9 - l);
            }
        }
        due("four at 0", Due.at(0, 0, 0, 0).fewest(0), NONE);
        due("four at 8", Due.at(8, 8, 8, 8).fewest(0), 1);
        due("four at 9", Due.at(9, 9, 9, 9).fewest(0), 0);
        due("QUICK is quicker than RULE 0: 4, 8, 9", Due.one(1, 0, 0, 9, 4, 0, 0, 0).fewest(0), 3);
        due("one is held", Due.of("thing;thing on 0;pupil 1 0 0 9,8;pupil 1 0 0 4,8;").fewest(1), NONE);
        due("who is held KNOWS", Due.of("thing;thing on 0;pupil 1 0 0 9,8;pupil 1 0 0 4,9;").fewest(1), 1);
        LeastTeaches x = Due.of("thing;thing on 0;pupil 1 0 0 4,4;pupil 1 0 0 9,9;");
        due("held at (4, 9)", x.fewest(1), NONE);
        due("not held at (4, 9)", x.fewest(0), 5);
        due("held at (4, 9)", x.fewest(1), NONE);
        x.lesson(1, 0, false);
        due("held no more", x.fewest(1), 5);
        x = Due.of("thing;thing on 0;pupil 1 0 0 9,9;pupil 1 0 0 4,4;");
        due("held at (9, 4), with the GUEST", visited(x).worth(1), 0);
        due("not held at (9, 4), with the GUEST", x.fewest(0), 5);
        due("not held at (9, 4), without", x.worth(0), 0);
        x = Due.at(8, 4);
        due("8 and 4", x.fewest(0), 5);
        x.summer(4);
        due("4 and 0", x.fewest(0), NONE);
        due("it is tried", x.level(0, 0), 4);
    }

    private static void rows() {
        Due.sentence("THE ROW: who stands up, of like ones the first (LESSON by LESSON the lesser PUPIL).");
        row("the lesser of like ones", Due.at(8, 8), 0);
        row("9 or 8: both do", Due.at(9, 8), 0);
        row("four", Due.at(9, 9, 9, 8), 0);
        row("each of the five by 1, or by QUICK last", Due.one(1, 0, 0, 9, 5, 0, 0, 0), 0, 0, 0, 0, 1);
        row("QUICK 4: 4, 8, and 9 by either", Due.one(1, 0, 0, 9, 4, 0, 0, 0), 1, 1, 0);
        row("QUICK 4, told first", Due.one(4, 0, 0, 0, 1, 0, 0, 9), 0, 0, 0);
        row("none to stand up", Due.at(9, 9));
        row("with the GUEST", visited(Due.one(5, 0, 0, 4, 1, 0, 0, 9)), 0);
        Random random = new Random(3);
        for (int k = 0; k < 60; k++) {
            int pupils = 2 + k % 3;
            int[] told = new int[4 * pupils];
            for (int p = 0; p < pupils; p++) {
                told[4 * p] = 1 + random.nextInt(5);
                told[4 * p + 1] = random.nextInt(101);
                told[4 * p + 3] = random.nextInt(10);
            }
            leastRow(told, k % 2 == 0);
        }
    }

    private static void row(String what, LeastTeaches x, int... want) {
        due(what + ": FEWEST", x.fewest(0), want.length);
        for (int j = 0; j < want.length; j++) due(what + ": row(0, " + j + ")", x.row(0, j), want[j]);
        due(what + ": not so many", x.row(0, want.length), NONE);
    }

    /** Each LESSON of THE ROW leads one nearer, and no lesser PUPIL would. */
    private static void leastRow(int[] told, boolean guest) {
        LeastTeaches x = Due.one(told), y = Due.one(told);
        x.guest(guest);
        y.guest(guest);
        int n = x.fewest(0);
        for (int j = 0; j < n; j++) {
            int who = x.row(0, j);
            for (int p = 0; p <= who; p++) {
                y.keep(0);
                y.lesson(p, 0, false);
                boolean nearer = y.fewest(0) == n - j - 1;
                Due.holds("LESSON " + j + ": " + p + " or " + who, nearer == (p == who));
                if (p < who) y.goBack(0);
            }
        }
        if (n != NONE) due("all KNOW behind it", y.hours(0, 0), 0);
        due("no more", x.row(0, Math.max(0, n)), NONE);
    }

    private static void stuckness() {
        Due.sentence("STUCK: from how things stand no row leads there.");
        for (int l = 0; l <= 9; l++) {
            for (int m = 0; m <= 9; m++) {
                LeastTeaches x = Due.one(1, 100, 0, l, 1, 100, 0, m);
                due(l + " and " + m, x.stuck(0), l < 5 && m < 5 ? 1 : 0);
                due(l + " and " + m + " with the GUEST", visited(x).stuck(0), 0);
            }
        }
        due("all KNOW", Due.at(9, 9, 9, 9).stuck(0), 0);
        due("held", visited(Due.of("thing;thing on 0;pupil 1 0 0 4,8;")).stuck(1), 1);
        due("held at 9", Due.of("thing;thing on 0;pupil 1 0 0 4,9;").stuck(1), 0);
    }

    private static void atMostFour() {
        Due.sentence("(For 4 PUPILS or fewer, else NOT.)");
        LeastTeaches four = Due.at(9, 9, 9, 8);
        due("FEWEST of 4", four.fewest(0), 1);
        due("THE ROW of 4", four.row(0, 0), 0);
        due("STUCK of 4", four.stuck(0), 0);
        due("WORTH of 4", four.worth(0), 0);
        due("THE ORDER of 4", four.order(NONE), 1);
        for (int pupils = 5; pupils <= 6; pupils++) {
            LeastTeaches x = pupils == 5 ? Due.at(9, 9, 9, 9, 9) : Due.at(9, 9, 9, 9, 9, 9);
            due("FEWEST of " + pupils, x.fewest(0), NOT);
            due("THE ROW of " + pupils, x.row(0, 0), NOT);
            due("THE ROW below 0 of " + pupils, x.row(0, -1), NOT);
            due("STUCK of " + pupils, x.stuck(0), NOT);
            due("WORTH of " + pupils, x.worth(0), NOT);
            due("THE ORDER of " + pupils, x.order(NONE), NOT);
            due("THE ORDER of " + pupils, x.order(0), NOT);
            due("THE ORDER below NONE of " + pupils, x.order(-2), NOT);
            due("HOURS of " + pupils, x.hours(0, 0), 0);
            due("MASTERED of " + pupils, x.mastered(0), 0);
        }
    }

    private static void worths() {
        Due.sentence("THE GUEST's WORTH: FEWEST without the GUEST less FEWEST with it (tried; 300, where there is NONE).");
        for (int quick = 1; quick <= 5; quick++) {
            for (int l = 0; l <= 9; l++) {
                LeastTeaches x = Due.one(quick, 0, 0, l);
                int want = l < 5 ? 300 - alone(quick, l, true) : 0;
                due("alone at " + l, x.worth(0), want);
                due("the GUEST is not let in by it", x.count(4), 0);
                due("alone at " + l + ", the GUEST let in", visited(x).worth(0), want);
                due("nor sent away", x.count(4), 1);
                due("nothing is held", x.level(0, 0), l);
            }
        }
        LeastTeaches x = Due.of("thing;thing on 0;pupil 1 0 0 4,8;pupil 1 0 0 9,9;");
        due("NONE and NONE", x.worth(1), 0);
        due("they come there without", Due.at(0, 5, 9, 4).worth(0), 0);
        due("no PUPILS: 0 less 0", nobody().worth(0), 0);
    }

    private static void masters() {
        Due.sentence("A MASTER tells in place of a LESSON: the one with the greatest LEVEL (of like ones the least PUPIL) tells all others "
            + "whose LEVEL is less: each rises by 1.");
        LeastTeaches x = Due.one(5, 100, 100, 0, 5, 100, 100, 7, 5, 100, 100, 6, 5, 100, 100, 7, 5, 100, 100, 1);
        due("whose LEVEL is less", x.master(0), 3);
        Due.levels("by 1, whatever QUICK is", x, 0, 1, 7, 7, 7, 2);
        x = Due.at(9, 0, 8, 9, 1, 2);
        due("six", x.master(0), 4);
        Due.levels("six", x, 0, 9, 1, 9, 9, 2, 3);
        for (int l = 0; l <= 9; l++) {
            for (int m = 0; m <= 9; m++) {
                x = Due.at(l, m);
                due("rose of " + l + ", " + m, x.master(0), l == m ? 0 : 1);
                Due.levels("of " + l + ", " + m, x, 0, l < m ? l + 1 : l, m < l ? m + 1 : m);
            }
        }

        Due.sentence("MASTERED: how many till all KNOW; NONE: more than 300.");
        for (int l = 0; l <= 9; l++) {
            for (int m = 0; m <= 9; m++) {
                int most = Math.max(l, m), least = Math.min(l, m);
                due("of " + l + ", " + m, Due.at(l, m).mastered(0), most == 9 ? 9 - least : NONE);
            }
            due("alone at " + l, Due.at(l).mastered(0), l == 9 ? 0 : NONE);
            due("the GUEST does not tell", visited(Due.at(l)).mastered(0), l == 9 ? 0 : NONE);
        }
        due("held", Due.of("thing;thing on 0;pupil 1 0 0 4,3;pupil 1 0 0 9,9;").mastered(1), NONE);
        due("not held", Due.of("thing;thing on 0;pupil 1 0 0 5,3;pupil 1 0 0 0,9;").mastered(1), 6);
    }

    private static void seeming() {
        Due.sentence("TO SEEM: by RULE 0 a PUPIL is taken as though its LEVEL were s less: PAYS: its LEVEL behind n LIKELY LESSONS less "
            + "what it is without.");
        for (int s = 0; s <= 9; s++) {
            LeastTeaches x = Due.one(1, 0, 0, 3, 5, 0, 0, 4, 1, 0, 0, 9);
            due("behind 0 of 3, seeming " + (4 - s), x.pays(1, 0, s, 1), s >= 2 ? 5 : 0);
            x = Due.one(5, 0, 0, 4, 1, 0, 0, 3, 1, 0, 0, 9);
            due("ahead of 1 of 3, seeming " + (4 - s), x.pays(0, 0, s, 1), s >= 1 ? 5 : 0);
            x = Due.one(1, 0, 0, 0, 5, 0, 0, 2, 1, 0, 0, 9);
            due("behind 0 of 0, seeming " + (2 - s), x.pays(1, 0, s, 1), s >= 3 ? 5 : 0);
            due("0 stands up either way", x.pays(0, 0, s, 1), 0);
            due("one PUPIL", Due.at(5).pays(0, 0, s, 3), 0);
            x = Due.at(7, 8);
            due("8 is RIGHT for 7, too", x.pays(1, 0, s, 1), s >= 2 ? 1 : 0);
        }
        LeastTeaches x = Due.one(5, 0, 0, 4, 5, 0, 0, 4, 1, 0, 0, 9);
        due("0 of two alike stands up anyway", x.pays(0, 0, 0, 1), 0);
        due("0 of two alike stands up anyway", x.pays(0, 0, 1, 1), 0);
        due("1 does not", x.pays(1, 0, 0, 1), 0);
        due("1 does, if it seems less", x.pays(1, 0, 1, 1), 5);
        x = Due.one(1, 100, 0, 2, 1, 100, 0, 4);
        due("one LESSON: it does not fall", x.pays(1, 0, 9, 1), 1);
        due("two: not twice", x.pays(1, 0, 9, 2), 2);
        due("three: nor from 2 to 1", x.pays(1, 0, 9, 3), 3);
        due("99: it is 4 and not 0", x.pays(1, 0, 9, 99), 4);
        Due.levels("it is tried", x, 0, 2, 4);
        due("no turn, no DRAW", x.count(5) + x.seed(0), 0);
    }

    private static void orders() {
        Due.sentence("THE ORDER of THINGS: one THING by the other, each till all KNOW it, by FEWEST, others staying as they are: the order "
            + "of the fewest LESSONS in all (THINGS may come in any order); of like ones the first; NONE.");
        order("no THINGS, no PUPILS", "", 0);
        order("no THINGS", "pupil 1 0 0;", 0);
        order("no PUPILS", "thing;thing on 0;", 0, 0, 1);
        order("all KNOW", "thing;thing on 0;pupil 1 0 0 9,9;", 0, 0, 1);
        order("one", "thing;pupil 1 0 0 8;", 1, 0);
        order("six", "thing;thing;thing;thing;thing;thing;pupil 1 0 0 5,6,7,8,9,5;", 4 + 3 + 2 + 1 + 4, 0, 1, 2, 3, 4, 5);
        order("six on one another", "thing;thing on 0;thing on 1;thing on 2;thing on 3;thing on 4;pupil 2 0 0 0,0,0,0,0,0;pupil 1 0 0 9,9,9,9,9,9;",
            6 * 6, 0, 1, 2, 3, 4, 5);
        order("held till 0 is KNOWN", "thing;thing on 0;pupil 1 0 0 4,8;pupil 1 0 0 9,9;", 5 + 1, 0, 1);
        order("each of four is held till then", "thing;thing on 0;pupil 1 0 0 4,8;pupil 1 0 0 4,8;pupil 1 0 0 9,9;pupil 1 0 0 4,8;", 5 + 1, 0, 1);
        order("the last of four is", "thing;thing on 0;pupil 1 0 0 9,9;pupil 1 0 0 9,9;pupil 1 0 0 9,9;pupil 1 0 0 4,8;", 5 + 1, 0, 1);
        order("held at 4 by 0, which never comes", "thing;thing on 0;pupil 1 0 0 4,8;", NONE);
        order("one of three never comes", "thing;thing;thing;pupil 1 0 0 9,4,9;", NONE);
        order("1 is KNOWN, 0 never comes", "thing;thing on 0;pupil 1 0 0 4,9;", NONE);
        LeastTeaches x = Due.of("thing;thing;pupil 1 0 0 4,9;");
        due("never", x.order(NONE), NONE);
        due("with the GUEST", visited(x).order(NONE), 5);
        due("with the GUEST", x.order(1), 1);
        due("it is tried", x.level(0, 0), 4);
    }

    private static void order(String what, String text, int lessons, int... things) {
        LeastTeaches x = Due.of(text);
        due(what + ": order(NONE)", x.order(NONE), lessons);
        for (int j = 0; j < 7; j++) due(what + ": order(" + j + ")", x.order(j), j < things.length ? things[j] : NONE);
    }

    private static void parted() {
        Due.sentence("TWO CLASSES: PUPILS parted in two, each one at least, PUPIL 0 in the first: FEWEST of a THING in each by itself (no "
            + "GUEST): the SET of the first class by which the longer one is shortest; of like ones the least SET; NONE: none in which "
            + "both come there.");
        due("two at 9", Due.at(9, 9).classes(0, 0), 1);
        due("of like ones the least", Due.at(9, 9, 9, 9, 9).classes(0, 0), 1);
        due("PUPIL 0 is in the first", Due.at(4, 9, 9).classes(0, 0), 3);
        due("nor may the other be empty", Due.at(4, 9).classes(0, 0), NONE);
        due("nor may the other be empty", Due.at(4, 9).classes(0, 1), NONE);
        due("the last with 0", Due.at(4, 4, 4, 9, 9).classes(0, 0), 9);
        due("1 with 4 or 0 with 4: both are stuck", Due.at(4, 9, 4, 4, 4).classes(0, 0), NONE);
        LeastTeaches x = visited(Due.at(4, 9));
        due("no GUEST", x.classes(0, 0), NONE);
        due("the GUEST stays in", x.count(4), 1);
        x = visited(Due.at(4, 9, 5));
        due("no GUEST", x.classes(0, 0), 3);
        due("the longer one: 9 with 4", x.classes(0, 1), 5);
        due("it is tried", x.level(0, 0), 4);
        x = Due.of("thing;thing on 0;pupil 1 0 0 4,4;pupil 1 0 0 9,9;pupil 1 0 0 9,9;");
        due("0 is held", x.classes(1, 0), NONE);
        due("0 is not", x.classes(0, 0), 3);
        due("0 is held", x.classes(1, 1), NONE);
        due("0 is not", x.classes(0, 1), 5);
        Random random = new Random(4);
        for (int k = 0; k < 80; k++) {
            int[] told = new int[4 * (1 + k % 5)];
            for (int p = 0; 4 * p < told.length; p++) {
                told[4 * p] = 1 + random.nextInt(5);
                told[4 * p + 1] = random.nextInt(101);
                told[4 * p + 3] = random.nextBoolean() ? 3 + random.nextInt(7) : random.nextInt(10);
            }
            bestOfAll(told);
        }
    }

    /** Each way to part them, told as two schools. */
    private static void bestOfAll(int[] told) {
        int pupils = told.length / 4, set = NONE, longest = NONE;
        for (int first = 1; first < (1 << pupils) - 1; first += 2) {
            int one = partOf(told, first).fewest(0), other = partOf(told, (1 << pupils) - 1 - first).fewest(0);
            if (one == NONE || other == NONE) continue;
            if (set == NONE || Math.max(one, other) < longest) {
                set = first;
                longest = Math.max(one, other);
            }
        }
        LeastTeaches x = Due.one(told);
        due("the SET of " + pupils, x.classes(0, 0), set);
        due("the longer one of " + pupils, x.classes(0, 1), longest);
    }

    private static LeastTeaches partOf(int[] told, int set) {
        int[] part = new int[4 * Integer.bitCount(set)];
        int at = 0;
        for (int p = 0; 4 * p < told.length; p++) {
            if ((set >> p & 1) == 1) {
                System.arraycopy(told, 4 * p, part, at, 4);
                at += 4;
            }
        }
        return Due.one(part);
    }

    // ---- promises 18 to 26

    private static void hoursPromise() {
        Due.sentence("HOURS; NONE. UNKNOWN, NOT: there are no PUPILS.");
        LeastTeaches x = Due.at(4, 8);
        due("RULE 0: 5, 9; 6; 7; 8; 9", x.hours(0, 0), 5);
        for (int rule : NO_RULE) due("RULE " + rule, x.hours(rule, 0), UNKNOWN);
        for (int t : NO_THING) due("THING " + t, x.hours(0, t), UNKNOWN);
        for (int rule = 0; rule < 3; rule++) due("no PUPILS", nobody().hours(rule, 0), NOT);
        due("UNKNOWN ahead of NOT", nobody().hours(3, 0), UNKNOWN);
        due("UNKNOWN ahead of NOT", nobody().hours(0, 1), UNKNOWN);
        due("nothing at all", new LeastTeaches().hours(0, 0), UNKNOWN);
    }

    private static void fewestPromise() {
        Due.sentence("FEWEST (0 without PUPILS); NONE. UNKNOWN, NOT.");
        due("0 without PUPILS", nobody().fewest(0), 0);
        due("0 without PUPILS, with the GUEST", visited(nobody()).fewest(0), 0);
        due("NONE", Due.at(4).fewest(0), NONE);
        for (int t : NO_THING) due("THING " + t, Due.at(9).fewest(t), UNKNOWN);
        LeastTeaches five = Due.at(9, 9, 9, 9, 9);
        for (int t : NO_THING) due("UNKNOWN ahead of NOT", five.fewest(t), UNKNOWN);
        due("NOT", five.fewest(0), NOT);

        Due.sentence("THE ROW: who stands up in LESSON j; NONE: not so many (j below 0, too), there is none. UNKNOWN, NOT.");
        LeastTeaches x = Due.at(9, 7);
        due("the first", x.row(0, 0), 0);
        due("the last", x.row(0, 1), 0);
        for (int j : new int[] {MIN, -2, -1, 2, 3, 40, MAX}) due("j = " + j, x.row(0, j), NONE);
        due("there is none", Due.at(4, 4).row(0, 0), NONE);
        due("they KNOW", Due.at(9, 9).row(0, 0), NONE);
        due("no PUPILS", nobody().row(0, 0), NONE);
        for (int t : NO_THING) due("THING " + t, x.row(t, 0), UNKNOWN);
        for (int t : NO_THING) due("UNKNOWN ahead of NONE", x.row(t, -1), UNKNOWN);
        for (int t : NO_THING) due("UNKNOWN ahead of NOT", five.row(t, 0), UNKNOWN);
        due("NOT", five.row(0, 0), NOT);
        due("NOT ahead of NONE", five.row(0, MIN), NOT);

        Due.sentence("STUCK: 1, 0. UNKNOWN, NOT.");
        due("STUCK", Due.at(4).stuck(0), 1);
        due("not STUCK", Due.at(5).stuck(0), 0);
        due("no PUPILS", nobody().stuck(0), 0);
        for (int t : NO_THING) due("THING " + t, x.stuck(t), UNKNOWN);
        for (int t : NO_THING) due("UNKNOWN ahead of NOT", five.stuck(t), UNKNOWN);
        due("NOT", five.stuck(0), NOT);

        Due.sentence("THE GUEST's WORTH. UNKNOWN, NOT.");
        due("300 less 1", Due.one(5, 0, 0, 4).worth(0), 299);
        for (int t : NO_THING) due("THING " + t, x.worth(t), UNKNOWN);
        for (int t : NO_THING) due("UNKNOWN ahead of NOT", five.worth(t), UNKNOWN);
        due("NOT", five.worth(0), NOT);
    }

    private static void masteredPromise() {
        Due.sentence("MASTERED; NONE. UNKNOWN, NOT: there are no PUPILS.");
        LeastTeaches x = Due.at(0, 9);
        due("9", x.mastered(0), 9);
        due("NONE", Due.at(0, 8).mastered(0), NONE);
        for (int t : NO_THING) due("THING " + t, x.mastered(t), UNKNOWN);
        due("no PUPILS", nobody().mastered(0), NOT);
        due("UNKNOWN ahead of NOT", nobody().mastered(1), UNKNOWN);
        due("it is tried", x.level(0, 0), 0);
    }

    private static void paysPromise() {
        Due.sentence("PAYS (s 0 .. 9, n 1 .. 99). UNKNOWN, OUTSIDE.");
        LeastTeaches x = Due.one(1, 0, 0, 3, 5, 0, 0, 4, 1, 0, 0, 9);
        due("s = 0", x.pays(1, 0, 0, 1), 0);
        due("s = 9", x.pays(1, 0, 9, 1), 5);
        due("n = 1", x.pays(1, 0, 2, 1), 5);
        due("n = 99", x.pays(1, 0, 2, 99), 0);
        for (int s : new int[] {MIN, -1, 10, MAX}) due("s = " + s, x.pays(1, 0, s, 1), OUTSIDE);
        for (int n : new int[] {MIN, -1, 0, 100, MAX}) due("n = " + n, x.pays(1, 0, 2, n), OUTSIDE);
        for (int p : new int[] {MIN, -1, 3, 6, MAX}) due("PUPIL " + p, x.pays(p, 0, 2, 1), UNKNOWN);
        for (int t : NO_THING) due("THING " + t, x.pays(1, t, 2, 1), UNKNOWN);
        due("UNKNOWN ahead of OUTSIDE", x.pays(3, 0, 10, 0), UNKNOWN);
        due("UNKNOWN ahead of OUTSIDE", x.pays(0, 1, 10, 0), UNKNOWN);
        due("no PUPILS", nobody().pays(0, 0, 0, 1), UNKNOWN);
        due("six PUPILS", Due.at(8, 8, 8, 8, 8, 9).pays(5, 0, 9, 99), 0);
    }

    private static void orderPromise() {
        Due.sentence("THE ORDER: j = NONE how many LESSONS, else the j-th THING; NONE (j below NONE, too). NOT.");
        LeastTeaches x = Due.of("thing;thing;pupil 1 0 0 7,8;");
        due("how many LESSONS", x.order(NONE), 3);
        due("THING 0 comes first", x.order(0), 0);
        due("THING 1 comes last", x.order(1), 1);
        for (int j : new int[] {MIN, -3, -2, 2, 6, MAX}) due("j = " + j, x.order(j), NONE);
        due("there is none", Due.at(4).order(NONE), NONE);
        due("there is none", Due.at(4).order(0), NONE);
        due("no THINGS", new LeastTeaches().order(NONE), 0);
        due("no THINGS", new LeastTeaches().order(0), NONE);
        LeastTeaches five = Due.at(9, 9, 9, 9, 9);
        for (int j : new int[] {MIN, -2, NONE, 0, 1, MAX}) due("NOT", five.order(j), NOT);
    }

    private static void classesPromise() {
        Due.sentence("TWO CLASSES: what = 0 the SET, 1 how long the longer one takes; NONE. UNKNOWN, OUTSIDE, NOT: more than 5 PUPILS (none "
            + "in which a class has 5).");
        LeastTeaches x = Due.at(8, 7, 9);
        due("the SET: 0 and 1, or 0 alone with 7 and 9", x.classes(0, 0), 1);
        due("how long", x.classes(0, 1), 2);
        for (int w : new int[] {MIN, -1, 2, MAX}) due("what = " + w, x.classes(0, w), OUTSIDE);
        for (int t : NO_THING) due("THING " + t, x.classes(t, 0), UNKNOWN);
        for (int t : NO_THING) due("UNKNOWN ahead of OUTSIDE", x.classes(t, 2), UNKNOWN);
        due("5 PUPILS", Due.at(9, 9, 9, 9, 8).classes(0, 1), 1);
        due("5 PUPILS: 0 and 3, the others by 4", Due.at(4, 4, 4, 9, 9).classes(0, 0), 9);
        due("5 PUPILS: four in the other class", Due.at(9, 4, 4, 4, 9).classes(0, 0), 1);
        LeastTeaches six = Due.at(9, 9, 9, 9, 9, 9);
        due("6 PUPILS", six.classes(0, 0), NOT);
        due("6 PUPILS", six.classes(0, 1), NOT);
        due("OUTSIDE ahead of NOT", six.classes(0, 2), OUTSIDE);
        due("UNKNOWN ahead of NOT", six.classes(1, 0), UNKNOWN);
        for (int w = 0; w < 2; w++) {
            due("one PUPIL", Due.at(9).classes(0, w), NONE);
            due("no PUPILS", nobody().classes(0, w), NONE);
        }
    }

    public static void main(String[] args) {
        hours();
        fewest();
        rows();
        stuckness();
        atMostFour();
        worths();
        masters();
        seeming();
        orders();
        parted();
        hoursPromise();
        fewestPromise();
        masteredPromise();
        paysPromise();
        orderPromise();
        classesPromise();
        Due.end("HoursBoundsTest");
    }
}
