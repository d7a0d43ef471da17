/** The bounds that the document names at the head of its terms and in promises 27 to 32, sentence by sentence. */
public final class StateBoundsTest {
    private static final int NONE = Due.NONE, UNKNOWN = Due.UNKNOWN, OUTSIDE = Due.OUTSIDE, NOT = Due.NOT, FULL = Due.FULL;
    private static final int MIN = Due.MIN, MAX = Due.MAX;

    private static void due(String what, long got, long want) {
        Due.due(what, got, want);
    }

    // ---- the head of the terms

    private static void calls() {
        Due.sentence("An object is used for at most 512 calls after it has been made");
        LeastTeaches x = new LeastTeaches();
        for (int k = 0; k < 511; k++) x.seed(k);
        due("the 512th", x.seed(7), 510);
        x = new LeastTeaches();
        Due.feed(x, "thing;pupil 1 0 0 9;");
        x.school();
        int first = 4;
        for (int k = first; k < 511; k++) x.run(1, 0, 99, true);
        due("the 512th", x.run(1, 0, 99, true), 1);
    }

    private static void numbers() {
        Due.sentence("All numbers are whole; / cuts towards 0.");
        LeastTeaches x = Due.of("thing;thing on 0;pupil 5 0 0 4,7;pupil 1 0 0 0,8;");
        due("less 750 * 50000 / MILLION: less 37, not less 38", x.exact(0, 1, 3), -37);

        Due.sentence("What has a number has it from 0 on, as it comes.");
        x = Due.of("thing;thing on 0;thing on 0,1;pupil 1 0 0 1,2,3;pupil 2 0 0 4,5,6;");
        for (int p = 0; p < 2; p++) {
            due("PUPIL " + p, x.pupil(p, 0), 1 + p);
            for (int t = 0; t < 3; t++) due("LEVEL of " + p + " of " + t, x.level(p, t), 1 + 3 * p + t);
        }
        due("behind the last PUPIL", x.pupil(2, 0), UNKNOWN);
        due("behind the last THING", x.leans(3), UNKNOWN);
        due("LESSON 0 of THE LOG", x.log(1, 0) * 10 + x.judge(), 10);
        due("LESSON 0 of THE ROW", Due.at(9, 8).row(0, 0), 0);

        Due.sentence("A SET is a whole number, bit k for k. NONE is -1.");
        due("bits 0 and 1", x.leans(2), 3);
        due("bit 4", Due.of("thing;thing;thing;thing;thing;thing on 4;").leans(5), 16);
        due("none", x.leans(0), 0);
        due("a class of 0 and 3", Due.at(4, 4, 4, 9, 9).classes(0, 0), 9);
        due("NONE", LeastTeaches.NONE, -1);

        Due.sentence("They are far below all that is counted: -1000001 and on.");
        due("UNKNOWN", LeastTeaches.UNKNOWN, -1000001);
        due("OUTSIDE", LeastTeaches.OUTSIDE, -1000002);
        due("NOT", LeastTeaches.NOT, -1000003);
        due("FULL", LeastTeaches.FULL, -1000004);

        Due.sentence("MILLION is 1000000.");
        due("all of it", Due.at(9).behind(0, 0, 0, 0), 1000000);
        due("all of it, but for .00001", Due.at(0, 9, 9, 9, 9, 9).exact(0, 0, 1), 999990);
    }

    private static void refusals() {
        Due.sentence("REFUSALS, of several the first in this order: UNKNOWN (a PUPIL, THING, RULE, IMAGE that there is not), OUTSIDE "
            + "(another number out of its bounds), NOT (not now, as told), FULL.");
        LeastTeaches none = Due.of("thing;"), six = Due.at(9, 9, 9, 9, 9, 9);
        due("PUPIL, OUTSIDE", six.pupil(6, 9), UNKNOWN);
        due("PUPIL, OUTSIDE", six.exact(6, 0, 9), UNKNOWN);
        due("THING, OUTSIDE", six.exact(0, 1, 9), UNKNOWN);
        due("RULE, OUTSIDE, NOT", six.behind(3, 0, 99, 99), UNKNOWN);
        due("THING, OUTSIDE, NOT", six.behind(0, 1, 99, 99), UNKNOWN);
        due("OUTSIDE, NOT", six.behind(0, 0, 99, 0), OUTSIDE);
        due("OUTSIDE, NOT", six.behind(0, 0, 0, 99), OUTSIDE);
        due("NOT", six.behind(0, 0, 0, 0), NOT);
        due("RULE, NOT", none.up(3, 0), UNKNOWN);
        due("THING, NOT", none.up(0, 1), UNKNOWN);
        due("NOT", none.up(0, 0), NOT);
        due("RULE, OUTSIDE, NOT", none.run(3, 0, 0, false), UNKNOWN);
        due("THING, OUTSIDE, NOT", none.run(0, 1, 0, false), UNKNOWN);
        due("OUTSIDE, NOT", none.run(0, 0, 0, false), OUTSIDE);
        due("NOT", none.run(0, 0, 1, false), NOT);
        due("THING, NOT", none.master(1), UNKNOWN);
        due("RULE, NOT", none.hours(3, 0), UNKNOWN);
        due("THING, NOT", none.hours(0, 1), UNKNOWN);
        due("THING, NOT", six.fewest(1), UNKNOWN);
        due("THING, NOT", six.row(1, 0), UNKNOWN);
        due("THING, NOT", six.stuck(1), UNKNOWN);
        due("THING, NOT", six.worth(1), UNKNOWN);
        due("THING, NOT", none.mastered(1), UNKNOWN);
        due("PUPIL, OUTSIDE", six.pays(6, 0, 10, 100), UNKNOWN);
        due("THING, OUTSIDE", six.pays(0, 1, 10, 100), UNKNOWN);
        due("THING, OUTSIDE, NOT", six.classes(1, 2), UNKNOWN);
        due("OUTSIDE, NOT", six.classes(0, 2), OUTSIDE);
        due("NOT", six.classes(0, 0), NOT);
        due("IMAGE, NOT", six.goBack(2), UNKNOWN);
        due("NOT", six.goBack(1), NOT);
        for (int k = 0; k < 40; k++) six.log(0, 0);
        due("PUPIL, FULL", six.log(6, 0), UNKNOWN);
        due("THING, FULL", six.log(0, 1), UNKNOWN);
        due("FULL", six.log(0, 0), FULL);
        Due.feed(six, " ".repeat(400));
        due("OUTSIDE, FULL", six.feed(0, 0), OUTSIDE);
        due("OUTSIDE, FULL", six.feed(9, 0), OUTSIDE);
        due("FULL", six.feed(1, 0), FULL);
    }

    private static void nothingChanges() {
        Due.sentence("What is refused changes nothing.");
        for (int call = 0; call < 34; call++) {
            LeastTeaches x = busy(), y = busy();
            Due.holds("call " + call + " is refused", refused(x, call) <= UNKNOWN);
            same("call " + call, x, y);
        }
        int[] none = {0, 1, 2, 3, 4};
        for (int call : none) {
            LeastTeaches x = withoutPupils(), y = withoutPupils();
            Due.holds("call " + call + " without PUPILS", refusedWithoutPupils(x, call) == NOT);
            same("call " + call + " without PUPILS", x, y);
        }
    }

    /** 6 PUPILS, a text and a LOG that are full, a GUEST, a SEED, a turn, one IMAGE. */
    private static LeastTeaches busy() {
        LeastTeaches x = Due.of("thing;thing on 0;pupil 1 10 20 9,2;pupil 2 30 40 9,4;pupil 3 50 60 9,9;pupil 4 70 80 3,1;"
            + "pupil 5 90 100 5,5;pupil 1 0 100 0,0;");
        x.seed(123456789);
        x.keep(0);
        x.run(1, 0, 4, true);
        x.guest(true);
        for (int k = 0; k < 40; k++) x.log(k % 6, k % 2);
        Due.feed(x, "thing;".repeat(66) + "thin");
        return x;
    }

    private static LeastTeaches withoutPupils() {
        LeastTeaches x = Due.of("thing;thing on 0;");
        x.seed(5);
        x.guest(true);
        x.keep(1);
        return x;
    }

    private static int refused(LeastTeaches x, int call) {
        switch (call) {
            case 0: return x.feed(0, -1L);
            case 1: return x.feed(9, -1L);
            case 2: return x.feed(1, ';');
            case 3: return x.count(6);
            case 4: return x.pupil(6, 0);
            case 5: return x.pupil(0, 5);
            case 6: return x.leans(2);
            case 7: return x.level(0, 2);
            case 8: return x.rises(6, 0);
            case 9: return x.lesson(6, 0, true);
            case 10: return x.lesson(0, 2, false);
            case 11: return x.exact(0, 0, 4);
            case 12: return x.behind(0, 0, 1, 0);
            case 13: return x.behind(3, 0, 1, 0);
            case 14: return x.up(3, 0);
            case 15: return x.run(1, 0, 100, true);
            case 16: return x.run(1, 2, 1, true);
            case 17: return x.run(3, 0, 1, false);
            case 18: return x.master(2);
            case 19: return x.summer(10);
            case 20: return x.summer(-1);
            case 21: return x.hours(3, 0);
            case 22: return x.fewest(0);
            case 23: return x.row(0, 0);
            case 24: return x.stuck(0);
            case 25: return x.worth(0);
            case 26: return x.mastered(2);
            case 27: return x.pays(0, 0, 1, 100);
            case 28: return x.order(0);
            case 29: return x.classes(0, 0);
            case 30: return x.log(0, 0);
            case 31: return x.seed(-1);
            case 32: return x.keep(2);
            default: return x.goBack(1);
        }
    }

    private static int refusedWithoutPupils(LeastTeaches x, int call) {
        switch (call) {
            case 0: return x.up(1, 0);
            case 1: return x.run(1, 0, 99, true);
            case 2: return x.master(0);
            case 3: return x.hours(1, 0);
            default: return x.mastered(0);
        }
    }

    /** All that can be seen of two objects, the IMAGE that they kept and the text that they were told, too. */
    private static void same(String what, LeastTeaches x, LeastTeaches y) {
        due(what + ": fault()", x.fault(), y.fault());
        sameStanding(what, x, y);
        due(what + ": judge()", x.judge(), y.judge());
        for (int i = 0; i < 2; i++) {
            due(what + ": goBack(" + i + ")", x.goBack(i), y.goBack(i));
            sameStanding(what + ", IMAGE " + i, x, y);
        }
        due(what + ": school()", x.school(), y.school());
        due(what + ": fault()", x.fault(), y.fault());
    }

    private static void sameStanding(String what, LeastTeaches x, LeastTeaches y) {
        for (int w = 0; w < 6; w++) due(what + ": count(" + w + ")", x.count(w), y.count(w));
        for (int p = 0; p < y.count(0); p++) {
            for (int w = 0; w < 5; w++) due(what + ": pupil(" + p + ", " + w + ")", x.pupil(p, w), y.pupil(p, w));
            for (int t = 0; t < y.count(1); t++) due(what + ": level(" + p + ", " + t + ")", x.level(p, t), y.level(p, t));
        }
        int seed = y.seed(0);
        due(what + ": THE SEED", x.seed(seed), seed);
        y.seed(seed);
    }

    // ---- the log

    private static void logs() {
        Due.sentence("THE LOG is a row of LESSONS (who, which THING; 40 at most): WRONG is the first at which, by LIKELY LESSONS from now "
            + "on, one stands up who has not the least LEVEL.");
        LeastTeaches x = Due.at(4, 8, 4);
        x.log(2, 0);
        due("of like ones any", x.judge(), NONE);
        x.log(0, 0);
        due("2 was told NO: 4, 9, 5", x.judge(), NONE);
        x.log(2, 0);
        due("0 was, and 2 said it, too: 5, 9, 6", x.judge(), 2);
        x.log(0, 0);
        due("the first", x.judge(), 2);
        x.lesson(2, 0, false);
        due("from now on: 4, 9, 5", x.judge(), 0);
        Due.levels("it is tried", x, 0, 4, 9, 5);
        x = Due.of("thing;thing;pupil 1 0 0 3,8;pupil 1 0 0 9,4;");
        x.log(0, 0);
        x.log(1, 1);
        due("each by its THING", x.judge(), NONE);
        x.log(0, 1);
        due("5 and 9 of THING 1", x.judge(), 2);
        x = Due.at(9, 9);
        for (int k = 0; k < 40; k++) x.log(k % 2, 0);
        due("40, all alike", x.judge(), NONE);
        x = Due.at(9, 9, 9, 9, 9, 8);
        for (int k = 0; k < 39; k++) x.log(5, 0);
        x.log(0, 0);
        due("9 from the second on", x.judge(), NONE);
        x = Due.at(9, 9, 9, 9, 9, 8);
        x.log(0, 0);
        due("the last of six has the least", x.judge(), 0);
        x = Due.of("thing;thing;pupil 1 0 0 9,9;pupil 1 0 0 9,8;");
        for (int k = 0; k < 39; k++) x.log(0, 0);
        x.log(0, 1);
        due("the last of 40", x.judge(), 39);
        x = Due.at(4, 4);
        x.log(0, 0);
        x.log(0, 0);
        due("wrong without NO, BELIEF 0: 4, 4", x.judge(), NONE);
        x = Due.one(1, 0, 0, 4, 1, 100, 0, 4);
        x.log(0, 0);
        x.log(0, 0);
        due("BELIEF 100: 4, 3", x.judge(), 1);
        x.guest(true);
        due("told NO by the GUEST: 5, 4", x.judge(), 1);
        x.clear();
        x.log(0, 0);
        x.log(1, 0);
        due("then 1 has the least", x.judge(), NONE);
        due("no DRAW, no turn", x.seed(0) + x.count(5), 0);
    }

    private static void logPromises() {
        Due.sentence("A LESSON behind THE LOG: how many it has. UNKNOWN, FULL (40).");
        LeastTeaches x = Due.of("thing;thing;pupil 1 0 0 3,8;pupil 1 0 0 9,4;");
        for (int k = 1; k <= 40; k++) due("so many", x.log(k % 2, k / 2 % 2), k);
        due("41", x.log(0, 0), FULL);
        due("40", x.count(3), 40);
        for (int p : new int[] {MIN, -1, 2, 6, MAX}) due("PUPIL " + p, x.log(p, 0), UNKNOWN);
        for (int t : new int[] {MIN, -1, 2, 6, MAX}) due("THING " + t, x.log(0, t), UNKNOWN);
        due("no school", new LeastTeaches().log(0, 0), UNKNOWN);
        due("no PUPILS", Due.of("thing;").log(0, 0), UNKNOWN);
        due("no THINGS", Due.of("pupil 1 0 0;").log(0, 0), UNKNOWN);

        Due.sentence("THE LOG is empty: how many it had.");
        due("40", x.clear(), 40);
        due("none", x.clear(), 0);
        due("none", x.count(3), 0);
        due("room again", x.log(0, 0), 1);
        due("one", x.clear(), 1);
        due("a new object", new LeastTeaches().clear(), 0);

        Due.sentence("WRONG; NONE.");
        due("an empty LOG", x.judge(), NONE);
        due("a new object", new LeastTeaches().judge(), NONE);
        x.log(0, 0);
        due("none WRONG", x.judge(), NONE);
        x.log(0, 1);
        due("WRONG", x.judge(), 1);
        due("again", x.judge(), 1);
        due("THE LOG stays", x.count(3), 2);
        x.clear();
        x.log(1, 0);
        due("the first", x.judge(), 0);
    }

    // ---- draws, images

    private static void seeds() {
        Due.sentence("THE SEED becomes v (0 .. 2147483647): what it was. OUTSIDE.");
        LeastTeaches x = new LeastTeaches();
        due("0 at first", x.seed(0), 0);
        due("0", x.seed(MAX), 0);
        due("2147483647", x.seed(1), MAX);
        for (int v : new int[] {MIN, MIN + 1, -2, -1}) due("v = " + v, x.seed(v), OUTSIDE);
        due("as it was", x.seed(0), 1);
        x = Due.at(9);
        x.seed(MAX);
        x.lesson(0, 0, true);
        due("a DRAW from 2147483647", x.seed(0), Due.drawFrom(MAX));
    }

    private static void images() {
        Due.sentence("IMAGES 0, 1 keep LEVELS, the GUEST, THE SEED, whose turn it is.");
        for (int i = 0; i < 2; i++) {
            LeastTeaches x = busy();
            x.clear();
            x.log(1, 1);
            x.seed(77);
            int[] was = new int[12];
            for (int k = 0; k < 12; k++) was[k] = x.level(k / 2, k % 2);
            x.keep(i);
            x.summer(1);
            x.guest(false);
            x.run(1, 1, 3, true);
            x.log(0, 0);
            x.school();
            Due.feed(x, "pupil");
            due("whose turn it was not", x.count(5), 1);
            due("goBack(" + i + ")", x.goBack(i), 1);
            for (int k = 0; k < 12; k++) due("LEVEL " + k, x.level(k / 2, k % 2), was[k]);
            due("the GUEST", x.count(4), 1);
            due("whose turn it is", x.count(5), 4);
            due("THE SEED", x.seed(0), 77);
            due("THE LOG is not in it", x.count(3), 2);
            due("nor THE TEXT", x.count(2), 5);
            due("nor its FAULT", x.fault(), 36);
        }
    }

    private static void imagePromises() {
        int[] not = {MIN, -1, 2, 3, 31, 32, MAX};
        Due.sentence("IMAGE i becomes what is so: 1. UNKNOWN.");
        LeastTeaches x = Due.at(5);
        due("keep(0)", x.keep(0), 1);
        x.summer(1);
        due("keep(1)", x.keep(1), 1);
        for (int i : not) due("keep(" + i + ")", x.keep(i), UNKNOWN);
        x.goBack(0);
        due("IMAGE 0", x.level(0, 0), 5);
        x.goBack(1);
        due("IMAGE 1", x.level(0, 0), 4);
        x.summer(4);
        due("kept anew", x.keep(0), 1);
        x.goBack(1);
        x.goBack(0);
        due("IMAGE 0", x.level(0, 0), 0);
        due("without a school", new LeastTeaches().keep(0), 1);

        Due.sentence("What is so becomes IMAGE i: 1. UNKNOWN, NOT: it was not kept.");
        x = Due.at(5);
        due("0 was not kept", x.goBack(0), NOT);
        due("1 was not kept", x.goBack(1), NOT);
        x.keep(1);
        due("0 was not kept", x.goBack(0), NOT);
        due("1 was kept", x.goBack(1), 1);
        due("and stays", x.goBack(1), 1);
        for (int i : not) due("goBack(" + i + ")", x.goBack(i), UNKNOWN);
        x.lesson(0, 0, false);
        x.goBack(1);
        due("as it was", x.level(0, 0), 5);
        x.lesson(0, 0, false);
        x.goBack(1);
        due("an IMAGE does not change with what is so", x.level(0, 0), 5);
        Due.feed(x, "pupil");
        x.school();
        due("with a FAULT it stays", x.goBack(1), 1);
        x.school();
        due("with a school it is gone", x.goBack(1), NOT);
        due("a new object", new LeastTeaches().goBack(0), NOT);
    }

    public static void main(String[] args) {
        calls();
        numbers();
        refusals();
        nothingChanges();
        logs();
        logPromises();
        seeds();
        images();
        imagePromises();
        Due.end("StateBoundsTest");
    }
}
