/** The bounds that the document names in part 1 and in promises 1 to 10, sentence by sentence. */
public final class SchoolBoundsTest {
    private static final int NONE = Due.NONE, UNKNOWN = Due.UNKNOWN, OUTSIDE = Due.OUTSIDE, FULL = Due.FULL;
    private static final int MIN = Due.MIN, MAX = Due.MAX;
    private static final String SIX_THINGS = "thing;thing;thing;thing;thing;thing;";
    private static final String SIX_PUPILS = "pupil 1 0 0;pupil 1 0 0;pupil 1 0 0;pupil 1 0 0;pupil 1 0 0;pupil 1 0 0;";

    private static void due(String what, long got, long want) {
        Due.due(what, got, want);
    }

    /** A text without FAULT. */
    private static void good(String text, int pupils) {
        Due.read(text, pupils, NONE);
    }

    private static void bad(String text, int fault, int place) {
        Due.read(text, -10 - fault, place);
    }

    // ---- the text's bounds

    private static void longestTexts() {
        Due.sentence("THE SCHOOL is told in a text (400 bytes at most)");
        String clause = "thing;";
        good(" ".repeat(400 - clause.length()) + clause, 0);
        bad(" ".repeat(400 - clause.length() + 1) + "thing", 1, 400);
        LeastTeaches x = new LeastTeaches();
        Due.feed(x, " ".repeat(395) + "thing");
        due("a byte more", x.feed(1, ';'), FULL);
        due("it is not in the text", x.school(), -11);
        due("nor in the next", x.count(2), 0);
        StringBuilder most = new StringBuilder("thing;thing on 0;thing on 0,1;thing on 0,1,2;thing on 0,1,2,3;thing on 0,1,2,3,4;");
        for (int p = 0; p < 6; p++) most.append("pupil 005 100 100 009,009,009,009,009,009;");
        good(most.toString(), 6);
        x = Due.of(most.toString());
        due("the last LEVEL of the last PUPIL", x.level(5, 5), 9);
        due("the last SET", x.leans(5), 31);
    }

    private static void clauses() {
        Due.sentence("clauses: 'thing' ['on' T {',' T}] ';'");
        good("thing;", 0);
        good("thing;thing on 0;", 0);
        good("thing;thing;thing on 1,0;", 0);
        bad("thing", 1, 5);
        bad("thing on", 1, 8);
        bad("thing on;", 1, 8);
        bad("thing 0;", 1, 6);
        bad("thing;thing 0;", 1, 12);
        bad("thing;thing on 0,;", 1, 17);
        bad("thing;thing;thing on 1 0;", 1, 23);
        bad("thing;thing on ,0;", 1, 15);
        bad("on;", 1, 0);

        Due.sentence("'pupil' R B P K {',' K} ';'");
        good("thing;pupil 1 2 3 4;", 1);
        good("thing;thing;pupil 1 2 3 4,5;", 1);
        LeastTeaches x = Due.of("thing;thing;pupil 1 2 3 4,5;pupil 5 4 3 2,1;");
        int[][] want = {{1, 2, 3, 4, 5}, {5, 4, 3, 2, 1}};
        for (int p = 0; p < 2; p++) {
            for (int w = 0; w < 3; w++) due("R, B, P", x.pupil(p, w), want[p][w]);
            for (int t = 0; t < 2; t++) due("K", x.level(p, t), want[p][3 + t]);
        }
        bad("thing;pupil 1,2,3,4;", 1, 13);
        bad("thing;pupil 1 2 3,4;", 1, 17);
        bad("thing;pupil 1 2 3 4", 1, 19);
        bad("thing;thing;pupil 1 2 3 4 5;", 1, 26);
        bad("pupil;", 1, 5);
    }

    private static void mostThings() {
        Due.sentence("(6 THINGS at most; it LEANS on THINGS told ahead)");
        good(SIX_THINGS, 0);
        due("six", Due.of(SIX_THINGS).count(1), 6);
        bad(SIX_THINGS + "thing;", 4, 36);
        bad("thing on 0;", 2, 9);
        bad("thing;thing on 1;", 2, 15);
        good("thing;thing on 0;", 0);
        good("thing;thing;thing;thing;thing;thing on 4;", 0);
        bad("thing;thing;thing;thing;thing;thing on 5;", 2, 39);
        bad("thing;thing;thing;thing;thing;thing on 6;", 2, 39);
        bad("thing;thing;thing;thing;thing;thing on 32;", 2, 39);
        bad("thing;thing;thing;thing;thing;thing on 999;", 2, 39);
        due("all that were told ahead", Due.of("thing;thing;thing;thing;thing;thing on 4,3,2,1,0;").leans(5), 31);
    }

    private static void boundsOfPupils() {
        Due.sentence("(6 PUPILS at most, behind all THINGS: QUICK 1 .. 5, BELIEF 0 .. 100, PRIDE 0 .. 100, then LEVEL 0 .. 9 "
            + "of each THING, as many as there are; none, if there are no THINGS)");
        good(SIX_PUPILS, 6);
        bad(SIX_PUPILS + "pupil 1 0 0;", 4, 72);
        bad("pupil 1 0 0;thing;", 4, 12);
        bad("pupil 0 0 0;", 2, 6);
        good("pupil 1 0 0;", 1);
        good("pupil 5 0 0;", 1);
        bad("pupil 6 0 0;", 2, 6);
        good("pupil 1 100 0;", 1);
        bad("pupil 1 101 0;", 2, 8);
        bad("pupil 1 999 0;", 2, 8);
        good("pupil 1 0 100;", 1);
        bad("pupil 1 0 101;", 2, 10);
        good("thing;pupil 1 0 0 0;", 1);
        good("thing;pupil 1 0 0 9;", 1);
        bad("thing;pupil 1 0 0 10;", 2, 18);
        bad("thing;thing;pupil 1 0 0 9,10;", 2, 26);
        bad("pupil 1 0 0 0;", 1, 12);
        bad("pupil 1 0 0,;", 1, 11);
        bad("thing;pupil 1 0 0;", 1, 17);
        good("thing;thing;pupil 1 0 0 1,2;", 1);
        bad("thing;thing;pupil 1 0 0 1;", 1, 25);
        bad("thing;thing;pupil 1 0 0 1,2,3;", 1, 27);
        good(SIX_THINGS + "pupil 1 0 0 0,1,2,3,4,5;", 1);
        bad(SIX_THINGS + "pupil 1 0 0 0,1,2,3,4;", 1, 57);
        bad(SIX_THINGS + "pupil 1 0 0 0,1,2,3,4,5,6;", 1, 59);
        bad("-1", 1, 0);
        bad("pupil 1 -1 0;", 1, 8);
    }

    // ---- signs, words, NUMBERS

    private static void figures() {
        Due.sentence("NUMBERS have one to three figures");
        good("pupil 1 1 1;", 1);
        good("pupil 01 01 01;", 1);
        good("pupil 001 001 001;", 1);
        due("three figures", Due.of("pupil 001 010 100;").pupil(0, 1), 10);
        due("three figures", Due.of("pupil 001 010 100;").pupil(0, 2), 100);
        bad("pupil 0001 1 1;", 2, 6);
        bad("pupil 1 0001 1;", 2, 8);
        bad("pupil 1 1 0001;", 2, 10);
        bad("thing;pupil 1 1 1 0001;", 2, 18);
        bad("thing;thing on 0000;", 2, 15);
        bad("pupil 4294967297 1 1;", 2, 6);
        bad("pupil " + "0".repeat(390) + "1 1;", 2, 6);
    }

    private static void letters() {
        Due.sentence("words are letters a .. z side by side");
        bad("thinga;", 1, 0);
        bad("thingz;", 1, 0);
        bad("athing;", 1, 0);
        bad("thin;", 1, 0);
        bad("hing;", 1, 0);
        bad("shing;", 1, 0);
        bad("hupil 1 0 0;", 1, 0);
        bad("thing;thing an 0;", 1, 12);
        bad("Thing;", 1, 0);
        bad("thinG;", 1, 0);
        bad("thing;thing o 0;", 1, 12);
        bad("thing;thing ona 0;", 1, 12);
        bad("thing;thing no 0;", 1, 12);
        bad("pupi 1 0 0;", 1, 0);
        bad("pupilx 1 0 0;", 1, 0);
        bad("thing`;", 1, 5);
        bad("thing{;", 1, 5);
        for (int b = 0; b < 256; b++) {
            String text = "thing" + (char) b + ";";
            boolean letter = b >= 'a' && b <= 'z';
            if (b == ' ') good(text, 0);
            else bad(text, 1, letter ? 0 : b == ';' ? 6 : 5);
        }
    }

    private static void blanks() {
        Due.sentence("blanks (32) may stand anywhere but within words and NUMBERS");
        good("  thing  ;  thing  on  0  ;  thing  on  0  ,  1  ;  pupil  1  2  3  4  ,  5  ,  6  ;  ", 1);
        bad("th ing;", 1, 0);
        bad("thing;thing o n 0;", 1, 12);
        bad("pu pil 1 0 0;", 1, 0);
        bad("thing;pupil 1 0 0 0 1;", 1, 20);
        bad("pupil 1 1 00 0;", 1, 13);
        for (int b = 0; b < 256; b++) {
            if (b == ' ') good("thing;" + (char) b, 0);
            else bad("thing;" + (char) b, 1, 6);
        }
        bad("\tthing;", 1, 0);
        bad("thing;\n", 1, 6);
    }

    private static void sideBySide() {
        Due.sentence("two words, two NUMBERS side by side need one.");
        bad("thing;thingon 0;", 1, 6);
        bad("pupil 100 0;", 2, 6);
        bad("pupil 1 00;", 1, 10);
        good("thing;thing on0;pupil1 2 3 4,5;", 1);
        good("thing;thing on0;pupil 1 2 3 4,5;", 1);
        bad("thing;thing on 0thing;", 1, 16);
        for (int b = 0; b < 256; b++) {
            String text = "thing;pupil 1 0 0 4" + (char) b + ";";
            boolean figure = b >= '0' && b <= '9';
            if (b == ' ') good(text, 1);
            else bad(text, figure ? 2 : 1, figure ? 18 : b == ';' ? 20 : 19);
        }
    }

    private static void emptyTexts() {
        Due.sentence("An empty text (or one of blanks alone) has no FAULT.");
        good("", 0);
        good(" ", 0);
        good(" ".repeat(400), 0);
        LeastTeaches x = Due.of("thing;pupil 1 0 0 4;");
        due("an empty text is a school", x.school(), 0);
        due("it has no PUPILS", x.count(0), 0);
        due("it has no THINGS", x.count(1), 0);
        due("there is no LEVEL any more", x.level(0, 0), UNKNOWN);
    }

    // ---- FAULTS

    private static void firstFault() {
        Due.sentence("FAULTS, at the first byte that has one (the end at the text's length), of these the least");
        bad("pupil 9 0 0 0;;", 2, 6);
        bad("thing;thing on 0,0,9;", 3, 17);
        bad("thing;thing on 0,9,0;", 2, 17);
        bad("pupil 1 0 0;thing on 7;", 4, 12);
        bad("thing", 1, 5);
        bad("thing ", 1, 6);
        bad("thing;thing on", 1, 14);
        bad("thing;thing on 0", 1, 16);
        bad("thing;thing on 0,", 1, 17);
        bad("pupil", 1, 5);
        bad("pupil 1", 1, 7);
        bad("pupil 1 2", 1, 9);
        bad("pupil 1 2 3", 1, 11);
        bad("thing;pupil 1 2 3", 1, 17);
        bad("thing;pupil 1 2 3 4", 1, 19);
        bad("thing;pupil 1 2 3 4   ", 1, 22);
        bad("thing 1234;", 1, 6);
        bad("1234", 1, 0);
        bad("pupil 1 2 3 1000;", 1, 12);
        bad("thing;thing on 0,0000;", 2, 17);
        bad("thing;pupil 1 0 0 thing", 1, 18);
        bad("thing;pupil 1 0 0 4;things;", 1, 20);
        bad(SIX_PUPILS + "pupils", 1, 72);
        bad(SIX_PUPILS + "thing", 4, 72);
        bad(SIX_THINGS + "thing on 9;", 4, 36);
    }

    private static void faultOne() {
        Due.sentence("1 it cannot stand there (a word that cannot: at its first letter; a ',' , a ';' that comes too late or too "
            + "early in LEVELS).");
        bad("on 0;", 1, 0);
        bad(";", 1, 0);
        bad(",", 1, 0);
        bad("7;", 1, 0);
        bad("thing;;", 1, 6);
        bad("thing,", 1, 5);
        bad("thing 0;", 1, 6);
        bad("thing thing;", 1, 6);
        bad("thing pupil;", 1, 6);
        bad("thing;thing on;", 1, 14);
        bad("thing;thing on,", 1, 14);
        bad("thing;thing on on 0;", 1, 15);
        bad("thing;thing on 0 0;", 1, 17);
        bad("thing;thing on 0,;", 1, 17);
        bad("thing;thing on 0,,", 1, 17);
        bad("thing;thing;thing on 0 on 1;", 1, 23);
        bad("pupil;", 1, 5);
        bad("pupil,", 1, 5);
        bad("pupil pupil;", 1, 6);
        bad("pupil 1;", 1, 7);
        bad("pupil 1,", 1, 7);
        bad("pupil 1 0,", 1, 9);
        bad("pupil 1 0;", 1, 9);
        bad("pupil 1 0 on;", 1, 10);
        bad("thing;pupil 1 0 0,", 1, 17);
        bad("thing;pupil 1 0 0 ;", 1, 18);
        bad("thing;pupil 1 0 0 4,", 1, 19);
        bad("thing;thing;pupil 1 0 0 4;", 1, 25);
        bad("thing;thing;pupil 1 0 0 4,;", 1, 26);
        bad("thing;thing;pupil 1 0 0 4,,", 1, 26);
        bad("thing;thing;pupil 1 0 0 4 5;", 1, 26);
        bad("thing;thing;pupil 1 0 0 4,5,", 1, 27);
        bad("thing;thing;pupil 1 0 0 4,on", 1, 26);
    }

    private static void faultTwo() {
        Due.sentence("2 a NUMBER of four figures or more, or out of its bounds; a THING that was not told yet (at its first).");
        bad("pupil  0001 0 0;", 2, 7);
        bad("pupil 1 12345 0;", 2, 8);
        bad("pupil 1 0   101;", 2, 12);
        bad("thing;pupil 1 0 0   10;", 2, 20);
        bad("thing;thing on  1;", 2, 16);
        bad("thing;thing on  100;", 2, 16);
        bad("thing;thing;thing on 1,0,2;", 2, 25);
    }

    private static void faultThree() {
        Due.sentence("3 a THING on which it LEANS already (at it).");
        bad("thing;thing on 0,0;", 3, 17);
        bad("thing;thing on 0, 000;", 3, 18);
        bad("thing;thing;thing on 0,1,0;", 3, 25);
        bad("thing;thing;thing on 1,1;", 3, 23);
        bad("thing;thing;thing;thing;thing;thing on 0,1,2,3,4,4;", 3, 49);
        good("thing;thing on 0;thing on 0;", 0);
    }

    private static void faultFour() {
        Due.sentence("4 a seventh THING, PUPIL, a THING behind a PUPIL (at the clause's first letter).");
        bad(SIX_THINGS + "  thing", 4, 38);
        bad(SIX_PUPILS + " pupil", 4, 73);
        bad("pupil 1 0 0;  thing", 4, 14);
        bad("thing;pupil 1 0 0 4; thing on 0;", 4, 21);
        good(SIX_THINGS + "pupil 1 0 0 0,0,0,0,0,0;", 1);
    }

    // ---- LEVELS

    private static void knowing() {
        Due.sentence("One KNOWS a THING at LEVEL 9.");
        for (int l = 0; l <= 9; l++) {
            LeastTeaches x = Due.at(l);
            due("who KNOWS at " + l, x.pupil(0, 3), l == 9 ? 1 : 0);
            due("nobody KNOWS at " + l, x.behind(0, 0, 0, 1), l == 9 ? 0 : 1000000);
            due("all KNOW at " + l, x.behind(0, 0, 0, 0), l == 9 ? 1000000 : 0);
            due("HOURS at " + l, x.hours(0, 0), l < 5 ? NONE : 9 - l);
        }
    }

    private static void leaning() {
        Due.sentence("A LEVEL of a THING cannot rise above 4 while one's LEVEL of a THING that it LEANS on is below 5");
        for (int ground = 0; ground <= 9; ground++) {
            for (int l = 0; l <= 9; l++) {
                LeastTeaches x = Due.of("thing;thing on 0;pupil 5 0 0 " + ground + "," + l + ";");
                int top = ground < 5 ? 4 : 9;
                due("rises from " + l + " on " + ground, x.rises(0, 1), Math.max(0, top - l));
                x.guest(true);
                x.lesson(0, 1, false);
                int by = l < 5 ? 5 : 1;
                due("LEVEL from " + l + " on " + ground, x.level(0, 1), Math.max(l, Math.min(top, l + by)));
            }
        }
        LeastTeaches x = Due.of("thing;thing;thing on 0,1;thing on 2;pupil 1 0 0 4,9,4,0;pupil 1 0 0 9,4,5,0;pupil 1 0 0 5,5,9,9;");
        due("the first of two is below", x.rises(0, 2), 0);
        due("the second of two is below", x.rises(1, 2), 0);
        due("neither is", x.rises(2, 2), 0);
        due("held by 2", x.rises(0, 3), 4);
        due("what 2 leans on does not matter to 3", x.rises(1, 3), 9);
        due("a MASTER finds nobody who can rise", x.master(2), 0);
        Due.levels("all are held", x, 2, 4, 5, 9);
        x = Due.of("thing;thing on 0;pupil 1 0 0 4,4;pupil 1 0 0 5,4;pupil 1 0 0 0,5;");
        x.lesson(2, 1, false);
        Due.levels("RIGHT without NO", x, 1, 4, 5, 5);
        x = Due.of("thing;thing on 0;pupil 1 0 0 5,4;pupil 1 0 0 9,9;");
        x.summer(1);
        due("the LEVEL that it leans on fell to 4", x.rises(0, 1), 1);
        x.lesson(1, 0, false);
        due("and rose to 5", x.rises(0, 1), 6);
    }

    private static void toldLevels() {
        Due.sentence("(what is told in the text is as it is; if it is above 4 it does not rise then).");
        for (int l = 5; l <= 9; l++) {
            LeastTeaches x = Due.of("thing;thing on 0;pupil 5 0 0 4," + l + ";pupil 1 0 0 4,9;");
            due("as it is", x.level(0, 1), l);
            due("it does not rise", x.rises(0, 1), 0);
            x.lesson(0, 1, false);
            due("not by RIGHT", x.level(0, 1), l);
            x.lesson(1, 1, false);
            due("not by listening", x.level(0, 1), l);
            x.master(1);
            due("not by a MASTER", x.level(0, 1), l);
            if (l < 9) Due.drawnOf("not by NO", x, 0, 1, 0, Due.just(99), Due.just(0));
            due("not by NO", x.level(0, 1), l);
            x.summer(1);
            due("it falls", x.level(0, 1), l - 1);
        }
        LeastTeaches x = Due.of("thing;thing on 0;pupil 1 0 0 4,7;pupil 1 0 0 4,0;");
        Due.drawnOf("nor does who says NO", x, 1, 1, 0, Due.just(99), Due.just(0));
        Due.levels("nor does who says NO", x, 1, 7, 1);
    }

    // ---- promises 1 to 10

    private static void newObject() {
        Due.sentence("No THINGS, no PUPILS, no GUEST.");
        LeastTeaches x = new LeastTeaches();
        due("PUPILS", x.count(0), 0);
        due("THINGS", x.count(1), 0);
        due("bytes", x.count(2), 0);
        due("LESSONS", x.count(3), 0);
        due("the GUEST", x.count(4), 0);
        due("whose turn", x.count(5), 0);
        due("fault()", x.fault(), NONE);
        due("no THING leans", x.leans(0), UNKNOWN);
        due("no PUPIL", x.pupil(0, 0), UNKNOWN);
        due("no LEVEL", x.level(0, 0), UNKNOWN);
        due("no SUMMER", x.summer(9), 0);
        due("no LOG", x.judge(), NONE);
        due("no order", x.order(0), NONE);
        due("no LESSONS in all", x.order(NONE), 0);
        due("an IMAGE can be kept", x.keep(1), 1);
        due("and gone back to", x.goBack(1), 1);
    }

    private static void feeding() {
        Due.sentence("The lowest n bytes (1 .. 8) of a long, the highest of these first, come behind THE TEXT: how many it has. "
            + "OUTSIDE, FULL (400).");
        int[] not = {MIN, -1, 0, 9, 16, 64, MAX};
        for (int n : not) {
            LeastTeaches x = new LeastTeaches();
            due("n = " + n, x.feed(n, -1L), OUTSIDE);
            due("nothing came", x.count(2), 0);
        }
        String text = "pupil 1 2 3;";
        for (int n = 1; n <= 8; n++) {
            LeastTeaches x = new LeastTeaches();
            int told = 0;
            while (told < text.length()) {
                int part = Math.min(n, text.length() - told);
                long bytes = -1L;
                for (int k = 0; k < part; k++) bytes = bytes << 8 | text.charAt(told + k);
                told += part;
                due("by " + n, x.feed(part, bytes), told);
            }
            due("by " + n, x.school(), 1);
        }
        LeastTeaches x = new LeastTeaches();
        due("bytes above 127 are bytes", x.feed(2, 0xff80L), 2);
        due("a FAULT", x.school() * 10 + x.fault(), -110);
        for (int n = 1; n <= 8; n++) {
            x = new LeastTeaches();
            Due.feed(x, " ".repeat(400 - n));
            due("n = " + n + " to 400", x.feed(n, 0x2020202020202020L), 400);
            x.school();
            Due.feed(x, " ".repeat(401 - n));
            due("n = " + n + " to 401", x.feed(n, 0x2020202020202020L), FULL);
            due("nothing came", x.count(2), 401 - n);
            due("n = 0 in a full text", x.feed(0, 0), OUTSIDE);
            due("what has room comes", n > 1 ? x.feed(n - 1, 0x2020202020202020L) : 400, 400);
            due("full", x.feed(1, ' '), FULL);
            due("behind school() there is room", x.school() + x.feed(8, 0), 8);
        }
    }

    private static void schools() {
        Due.sentence("THE TEXT (it is empty then, with a FAULT, too) becomes THE SCHOOL (no GUEST, THE LOG is empty, IMAGES are gone, "
            + "PUPIL 0's turn; THE SEED stays): how many PUPILS; -10 less the number of its FAULT (all else is as it was).");
        LeastTeaches x = busy();
        Due.feed(x, "thing;pupil 1 0 0 8;pupil 1 0 0 9;");
        due("PUPILS", x.school(), 2);
        due("THE TEXT is empty", x.count(2), 0);
        due("no GUEST", x.count(4), 0);
        due("THE LOG is empty", x.count(3), 0);
        due("IMAGE 0 is gone", x.goBack(0), Due.NOT);
        due("IMAGE 1 is gone", x.goBack(1), Due.NOT);
        due("PUPIL 0's turn", x.count(5), 0);
        due("THE SEED stays", x.seed(3), 1043980748);
        due("THINGS", x.count(1), 1);
        due("FEWEST is the new school's", x.fewest(0), 1);
        int[] fewest = {9, 6, 5, 3, 5};
        for (int quick = 1; quick <= 5; quick++) {
            Due.feed(x, "thing;pupil " + quick + " 0 0 0;pupil 1 0 0 9;");
            x.school();
            due("FEWEST from the same LEVELS by QUICK " + quick, x.fewest(0), fewest[quick - 1]);
            Due.feed(x, "thing;pupil " + quick + " 0 0 0;");
            x.school();
            due("WORTH at the same LEVEL by QUICK " + quick, x.worth(0), 300 - fewest[quick - 1]);
        }
        String[] faulty = {"thin;", "pupil 9", "thing;thing on 0,0;", SIX_THINGS + "thing;"};
        for (int f = 1; f <= 4; f++) {
            x = busy();
            Due.feed(x, faulty[f - 1]);
            due("FAULT " + f, x.school(), -10 - f);
            due("THE TEXT is empty", x.count(2), 0);
            due("PUPILS", x.count(0), 3);
            due("THINGS", x.count(1), 2);
            due("LESSONS of THE LOG", x.count(3), 2);
            due("the GUEST", x.count(4), 1);
            due("whose turn", x.count(5), 2);
            due("THE SEED", x.seed(3), 1043980748);
            due("QUICK", x.pupil(2, 0), 3);
            due("the SET", x.leans(1), 1);
            Due.levels("LEVELS", x, 1, 2, 4, 9);
            due("WRONG", x.judge(), 1);
            due("IMAGE 0", x.goBack(0), 1);
            due("IMAGE 1", x.goBack(1), 1);
            due("a school behind a FAULT", x.school(), 0);
        }
    }

    /** All that a school answers hangs on its own text alone, whatever was told ahead of it. */
    private static void schoolsAnew() {
        Due.sentence("THE TEXT (it is empty then, with a FAULT, too) becomes THE SCHOOL (no GUEST, THE LOG is empty, IMAGES are gone, "
            + "PUPIL 0's turn; THE SEED stays): how many PUPILS; -10 less the number of its FAULT (all else is as it was).");
        String large = "thing;thing;thing;thing;thing;thing;" + "pupil 3 100 100 7,8,7,8,7,8;".repeat(6);
        String[] small = {"", "thing;", "pupil 2 0 0;", "thing;pupil 1 0 0 4;", "thing;thing on 0;pupil 2 50 0 4,0;pupil 1 50 50 9,5;",
            "thing;pupil 4 50 0 0;pupil 1 50 50 9;pupil 5 0 0 4;", "thing;pupil 1 0 0 8;pupil 2 0 0 9;",
            "thing;pupil 1 0 0 3;pupil 1 50 0 2;pupil 1 50 50 9;pupil 1 0 0 4;",
            "thing;pupil 5 0 0 3;pupil 4 50 0 2;pupil 3 50 50 9;pupil 2 0 0 4;pupil 1 0 0 5;"};
        String low = large.replace("7,8", "6,1");
        for (String ahead : new String[] {large, low, "thing;thing;thing;pupil 1 2 3 4,4,4;pupil 1 2 3 6,6,6", "thing;pupil 5 9 9 9;pupil 9"}) {
            LeastTeaches x = new LeastTeaches();
            for (String text : small) {
                Due.feed(x, ahead);
                if (x.school() >= 0) answers(x);
                Due.feed(x, text);
                x.school();
                x.seed(0);
                due("'" + text + "' behind '" + ahead + "'", answers(x), answers(Due.of(text)));
            }
        }
    }

    /** What many calls answer, in one number. */
    private static long answers(LeastTeaches x) {
        long all = 0;
        for (int w = 0; w < 6; w++) all = all * 31 + x.count(w);
        for (int t = 0; t < 6; t++) {
            all = all * 31 + x.leans(t);
            all = all * 31 + x.fewest(t);
            all = all * 31 + x.row(t, 0);
            all = all * 31 + x.worth(t);
            all = all * 31 + x.mastered(t);
            for (int rule = 0; rule < 3; rule++) {
                all = all * 31 + x.up(rule, t);
                all = all * 31 + x.hours(rule, t);
                for (int w = 0; w < 5; w++) all = all * 31 + x.behind(rule, t, 3, w);
            }
            all = all * 31 + x.classes(t, 0);
            all = all * 31 + x.classes(t, 1);
            for (int p = 0; p < 6; p++) {
                all = all * 31 + x.level(p, t);
                for (int w = 0; w < 4; w++) all = all * 31 + x.exact(p, t, w);
                all = all * 31 + x.pays(p, t, 3, 2);
            }
            all = all * 31 + x.run(1, t, 2, true);
            all = all * 31 + x.master(t);
        }
        all = all * 31 + x.order(NONE);
        for (int p = 0; p < 6; p++) all = all * 31 + x.pupil(p, 4);
        return all * 31 + x.summer(1);
    }

    /** A school in which nothing is as it is at first. */
    private static LeastTeaches busy() {
        LeastTeaches x = Due.of("thing;thing on 0;pupil 1 0 0 9,2;pupil 2 0 0 9,4;pupil 3 0 0 9,9;");
        x.keep(0);
        x.run(1, 0, 2, false);
        x.keep(1);
        x.guest(true);
        x.log(0, 1);
        x.log(2, 1);
        x.seed(1043980748);
        return x;
    }

    private static void faults() {
        Due.sentence("The place (from 0 on) of the byte that has the FAULT of the latest school(); NONE.");
        LeastTeaches x = new LeastTeaches();
        due("no school() yet", x.fault(), NONE);
        Due.feed(x, ";");
        due("not read yet", x.fault(), NONE);
        x.school();
        due("the first byte", x.fault(), 0);
        Due.feed(x, "thing");
        due("of the latest school()", x.fault(), 0);
        x.school();
        due("the end", x.fault(), 5);
        Due.feed(x, " ".repeat(399) + "x");
        x.school();
        due("the last byte", x.fault(), 399);
        Due.feed(x, "thing;" + " ".repeat(389) + "thing");
        x.school();
        due("behind the last byte", x.fault(), 400);
        x.school();
        due("no FAULT any more", x.fault(), NONE);
    }

    private static void asked() {
        Due.sentence("How many: 0 PUPILS, 1 THINGS, 2 bytes of THE TEXT, 3 LESSONS of THE LOG, 4 whether the GUEST is let in (1, 0), "
            + "5 the PUPIL whose turn it is. OUTSIDE.");
        LeastTeaches x = busy();
        Due.feed(x, "1234567");
        int[] want = {3, 2, 7, 2, 1, 2};
        for (int w = 0; w < want.length; w++) due("count(" + w + ")", x.count(w), want[w]);
        int[] not = {MIN, -1, 6, 7, MAX};
        for (int w : not) due("count(" + w + ")", x.count(w), OUTSIDE);
        x = Due.of(SIX_THINGS + "pupil 1 0 0 0,0,0,0,0,0;".repeat(6));
        due("6 PUPILS", x.count(0), 6);
        due("6 THINGS", x.count(1), 6);
        x.run(1, 0, 5, false);
        due("the last one's turn", x.count(5), 5);
        x.run(1, 0, 1, false);
        due("and PUPIL 0's again", x.count(5), 0);

        Due.sentence("Of a PUPIL: what = 0 QUICK, 1 BELIEF, 2 PRIDE, 3 how many THINGS it KNOWS, 4 its LEVELS together. UNKNOWN, OUTSIDE.");
        x = Due.of(SIX_THINGS + "pupil 1 0 100 0,0,0,0,0,0;pupil 5 100 0 9,9,9,9,9,9;pupil 2 3 4 8,9,8,9,8,0;");
        int[][] of = {{1, 0, 100, 0, 0}, {5, 100, 0, 6, 54}, {2, 3, 4, 2, 42}};
        for (int p = 0; p < 3; p++) {
            for (int w = 0; w < 5; w++) due("pupil(" + p + ", " + w + ")", x.pupil(p, w), of[p][w]);
        }
        int[] nobody = {MIN, -1, 3, 6, MAX};
        for (int p : nobody) due("pupil(" + p + ", 0)", x.pupil(p, 0), UNKNOWN);
        int[] nothing = {MIN, -1, 5, MAX};
        for (int w : nothing) due("pupil(0, " + w + ")", x.pupil(0, w), OUTSIDE);
        due("UNKNOWN first", x.pupil(3, 5), UNKNOWN);
        x = Due.of("pupil 4 5 6;");
        due("no THINGS to KNOW", x.pupil(0, 3), 0);
        due("no LEVELS", x.pupil(0, 4), 0);
    }

    private static void askedOfThings() {
        int[] not = {MIN, -1, 2, 6, 31, MAX};
        Due.sentence("THINGS on which a THING LEANS: the SET. UNKNOWN.");
        LeastTeaches x = Due.of("thing;thing on 0;pupil 1 0 0 3,4;");
        due("none", x.leans(0), 0);
        due("one", x.leans(1), 1);
        for (int t : not) due("leans(" + t + ")", x.leans(t), UNKNOWN);
        LeastTeaches y = Due.of("thing;thing;thing;thing;thing;thing on 4,0;");
        due("bits 0 and 4", y.leans(5), 17);
        Due.feed(y, SIX_THINGS);
        y.school();
        due("none in the next school", y.leans(5), 0);

        Due.sentence("A LEVEL. UNKNOWN.");
        due("the first", x.level(0, 0), 3);
        due("the last", x.level(0, 1), 4);
        for (int t : not) due("level(0, " + t + ")", x.level(0, t), UNKNOWN);
        for (int p : new int[] {MIN, -1, 1, 6, MAX}) due("level(" + p + ", 0)", x.level(p, 0), UNKNOWN);

        Due.sentence("How far a LEVEL can rise now (to 4, to 9, less the LEVEL; 0). UNKNOWN.");
        due("to 9", x.rises(0, 0), 6);
        due("to 4", x.rises(0, 1), 0);
        for (int t : not) due("rises(0, " + t + ")", x.rises(0, t), UNKNOWN);
        for (int p : new int[] {MIN, -1, 1, 6, MAX}) due("rises(" + p + ", 0)", x.rises(p, 0), UNKNOWN);
        for (int l = 0; l <= 9; l++) {
            due("on 4 from " + l, Due.of("thing;thing on 0;pupil 1 0 0 4," + l + ";").rises(0, 1), l < 4 ? 4 - l : 0);
            due("on 5 from " + l, Due.of("thing;thing on 0;pupil 1 0 0 5," + l + ";").rises(0, 1), 9 - l);
        }

        Due.sentence("The GUEST is let in, or not: what it was (1, 0).");
        x = new LeastTeaches();
        due("not yet", x.guest(false), 0);
        due("let in, without a school, too", x.guest(true), 0);
        due("let in again", x.guest(true), 1);
        due("there", x.count(4), 1);
        due("not any more", x.guest(false), 1);
        due("gone", x.guest(false), 0);
    }

    public static void main(String[] args) {
        longestTexts();
        clauses();
        mostThings();
        boundsOfPupils();
        figures();
        letters();
        blanks();
        sideBySide();
        emptyTexts();
        firstFault();
        faultOne();
        faultTwo();
        faultThree();
        faultFour();
        knowing();
        leaning();
        toldLevels();
        newObject();
        feeding();
        schools();
        schoolsAnew();
        faults();
        asked();
        askedOfThings();
        Due.end("SchoolBoundsTest");
    }
}
