/** Section 1 of the document and promises 1 to 4: a test for each sentence that names an edge. */
public final class TextEdges extends Check {
    private static final String ROAD = "r0 1 1;", KEEPER = "k0 0;", PROMISE = "p0 0 1 0 1 9;";

    private static void numbersAndAnswers() {
        sentence("What has a number has it from 0 on, as it comes.", () -> {
            RipePromises x = on("t3;k2 1;p0 1 7 0 1 9;k1 0;p1 0 8 0 2 9;");
            are("towns", row(x.far(0, 0), x.far(2, 2), x.far(3, 3)), 0, 0, UNKNOWN);
            are("keepers", row(x.keeper(0, 0), x.keeper(1, 0), x.keeper(2, 0)), 2, 1, UNKNOWN);
            are("promises", row(x.promise(0, 2), x.promise(1, 2), x.promise(2, 2)), 7, 8, UNKNOWN);
        });
        sentence("A SET is a whole number, bit k for k (of PROMISES, if nothing else is told).", () -> {
            RipePromises x = on("t1;k0 0;k0 0;" + PROMISE + "p1 0 1 0 1 9;".repeat(5) + PROMISE);
            are("0 and 6; 1 to 5; all", row(x.keeper(0, 3), x.keeper(1, 3), x.told(6)), 65, 62, 127);
        });
        sentence("They are far below all that is counted: -1000000001 and on.", () ->
            are("refusals", row(NONE, UNKNOWN, OUTSIDE, NOT, FULL), -1, -1000000001, -1000000002, -1000000003, -1000000004));
        sentence("An object is used for at most 512 calls after it has been made", () -> {
            RipePromises x = on(PLAIN);
            for (int call = PLAIN.length() + 2; call < 512; call++) {
                is("call " + call, x.far(0, 2), 5);
            }
            is("call 512", x.day(99), 99);
        });
    }

    private static void theText() {
        sentence("THE LAND is told in a text (250 letters at most), letter by letter", () -> {
            RipePromises x = new RipePromises();
            feedAll(x, "t3;" + " ".repeat(242) + "k2 1;");
            are("the 250th letter counts, the 251st is not in the text", row(x.told(4), x.feed('q'), x.land(), x.fault(), x.keeper(0, 0)), 250, FULL, 3, NONE, 2);
            RipePromises y = new RipePromises();
            feedAll(y, "t3;" + " ".repeat(243) + "k2 1;");
            are("a clause that is not whole by then", row(y.told(4), y.land(), y.fault()), 250, -11, 250);
        });
        sentence("An empty text (or of blanks alone): no TOWNS.", () -> {
            are("empty, one blank, 250", row(tell(on(PLAIN), ""), tell(on(PLAIN), " "), tell(on(PLAIN), " ".repeat(250))), 0, 0, 0);
            RipePromises x = on(PLAIN);
            are("what was told is gone", row(x.land(), x.fault(), x.told(0), x.told(1), x.told(2), x.told(3), x.far(0, 0)), 0, NONE, 0, 0, 0, 0, UNKNOWN);
        });
    }

    private static void towns() {
        sentence("'t' N ';' (TOWNS 0 .. N less 1, N 1 .. 5; first, once)", () -> {
            faulty("t0;", 2, 1);
            sound("t1;", 1);
            sound("t5;", 5);
            faulty("t6;", 2, 1);
            RipePromises five = on("t5;");
            are("0 to 4", row(five.far(4, 4), five.far(5, 5), five.far(-1, -1)), 0, UNKNOWN, UNKNOWN);
            RipePromises one = on("t1;");
            are("0 alone", row(one.far(0, 0), one.far(0, 1)), 0, UNKNOWN);
            for (String first : new String[] {"r0 1 1;", "k0 0;", "p0 0 1 0 1 9;", "w0 1 2;"}) {
                faulty(first + "t2;", 1, 0);
                faulty(" " + first, 1, 1);
            }
            faulty("t2;t2;", 3, 3);
            faulty("t2; " + KEEPER + " t", 3, 10);
        });
    }

    private static void roads() {
        sentence("'r' A B D ';' (8 ROADS at most, both ways, between unlike TOWNS: D days, 1 .. 9)", () -> {
            RipePromises x = on("t2;" + "r0 1 3;".repeat(7) + "r1 0 2;");
            are("eight, one way and the other; the last is the shortest", row(x.told(1), x.far(0, 1), x.far(1, 0)), 8, 2, 2);
            faulty("t2;" + ROAD.repeat(9), 3, 59);
            are("none", row(on("t2;").told(1), on("t2;").far(0, 1)), 0, NONE);
            faulty("t2;r0 1 0;", 2, 8);
            sound("t2;r0 1 1;", 2);
            sound("t2;r0 1 9;", 2);
            faulty("t2;r0 1 10;", 2, 8);
            is("9 days", on("t2;r1 0 9;").far(0, 1), 9);
            sound("t5;r4 3 1;r3 4 1;", 5);
            faulty("t5;r5 3 1;", 2, 4);
            faulty("t5;r3 5 1;", 2, 6);
            faulty("t1;r0 1 1;", 2, 6);
            faulty("t2;r1 1 1;", 4, 6);
            faulty("t1;r0 0 1;", 4, 6);
        });
    }

    private static void keepers() {
        sentence("'k' T F ';' (3 KEEPERS at most, in TOWN T, of FAMILY F 0 .. 2)", () -> {
            RipePromises x = on("t5;k0 0;k4 2;k3 1;");
            are("three", row(x.told(2), x.keeper(1, 0), x.keeper(1, 1), x.keeper(2, 0), x.keeper(2, 1), x.keeper(3, 0)), 3, 4, 2, 3, 1, UNKNOWN);
            faulty("t5;k0 0;k4 2;k3 1;k", 3, 18);
            faulty("t5;k0 0;k4 2;k3 1;k0 0;", 3, 18);
            faulty("t5;k5 0;", 2, 4);
            faulty("t1;k1 0;", 2, 4);
            faulty("t5;k4 3;", 2, 6);
        });
    }

    private static void promises() {
        sentence("'p' K T A S Z G ';' (7 PROMISES at most: KEEPER K told ahead has to keep it in TOWN T; AGE A 1 .. 60; SLACK S 0 .. 9; SIZE Z 1 .. 9; grafted on PROMISE G told ahead, or 9: on none)", () -> {
            RipePromises x = on("t2;k0 0;k0 0;k0 0;p0 0 1 0 1 9;p2 1 60 9 9 0;p1 1 30 4 5 1;" + PROMISE.repeat(3) + "p2 0 1 0 1 5;");
            are("the least of all", promiseAll(x, 0), 0, 0, 1, 0, 1, NONE, 0, 1, NONE);
            are("the greatest of all", promiseAll(x, 1), 2, 1, 60, 9, 9, 0, 0, NONE, NONE);
            are("grafted on the one told last", row(x.promise(2, 5), x.promise(6, 5), x.promise(7, 5)), 1, 5, UNKNOWN);
            is("seven", x.told(3), 7);
            faulty("t2;" + KEEPER + PROMISE.repeat(7) + "p", 3, 99);
            faulty("t2;" + KEEPER + PROMISE.repeat(7) + PROMISE, 3, 99);
            faulty("t2;k0 0;p0 2 1 0 1 9;", 2, 11);
            faulty("t2;k0 0;p0 0 0 0 1 9;", 2, 13);
            faulty("t2;k0 0;p0 0 61 0 1 9;", 2, 13);
            faulty("t2;k0 0;p0 0 1 10 1 9;", 2, 15);
            faulty("t2;k0 0;p0 0 1 0 0 9;", 2, 17);
            faulty("t2;k0 0;p0 0 1 0 10 9;", 2, 17);
        });
        sentence("a KEEPER that was not told yet; a G that is neither told yet nor 9 (at its first)", () -> {
            faulty("t2;p0 0 1 0 1 9;" + KEEPER, 2, 4);
            faulty("t2;k0 0;p1 0 1 0 1 9;k0 0;", 2, 9);
            faulty("t2;k0 0;k0 0;p2 0 1 0 1 9;", 2, 14);
            sound("t2;k0 0;k0 0;p1 0 1 0 1 9;", 2);
            faulty("t2;k0 0;p0 0 1 0 1 0;" + PROMISE, 2, 19);
            faulty("t2;k0 0;" + PROMISE + "p0 0 1 0 1 1;", 2, 32);
            faulty("t2;k0 0;" + PROMISE + "p0 0 1 0 1 008;", 2, 32);
            faulty("t2;k0 0;" + PROMISE + "p0 0 1 0 1 10;", 2, 32);
            sound("t2;k0 0;" + PROMISE + "p0 0 1 0 1 0;", 2);
            sound("t2;k0 0;" + PROMISE + "p0 0 1 0 1 009;", 2);
        });
    }

    private static void winter() {
        sentence("'w' F L N ';' (WINTER: of each N days, 2 .. 99, from day F, 0 .. 98, for L days, 0 .. 98, round the end, too; untold: never; once)", () -> {
            sound("t1;w0 0 2;", 1);
            sound("t1;w98 98 99;", 1);
            faulty("t1;w99 0 2;", 2, 4);
            faulty("t1;w0 99 99;", 2, 6);
            faulty("t1;w0 0 1;", 2, 8);
            faulty("t1;w0 0 0;", 2, 8);
            faulty("t1;w0 0 100;", 2, 8);
            faulty("t1;w0 0 2;w", 3, 10);
            faulty("t1;w1 1 2;w1 1 2;", 3, 10);
            is("from day F for L days: 2 to 4 of each 10", winters("w2 3 10;", 23), 7 << 2 | 7 << 12 | 1 << 22);
            is("round the end: 6, 7 and 8 of each 7", winters("w6 3 7;", 14), 1 | 1 << 1 | 3 << 6 | 1 << 8 | 1 << 13);
            is("untold", winters("", 20), 0);
            is("for no day", winters("w3 0 5;", 20), 0);
            is("all but one", winters("w1 4 5;", 15), 0x7fff & ~(1 | 1 << 5 | 1 << 10));
        });
        sentence("A day is of WINTER, if it, less F, left over by N (0 to N less 1), is below L.", () -> {
            is("days ahead of F: 0 less 98 leaves 1 of 99", winters("w98 2 99;", 3), 1);
            is("F far beyond N: 98 less 98, 97 less 98, .. by 3", winters("w98 1 3;", 9), 1 << 2 | 1 << 5 | 1 << 8);
            RipePromises x = on("t1;w98 1 99;");
            are("day 97, 98, 99", row(x.told(12), x.day(97), x.told(12), x.day(1), x.told(12), x.day(1), x.told(12)), 0, 97, 0, 98, 1, 99, 0);
        });
    }

    /** The days of winter among the first so many, day k in bit k. */
    private static int winters(String clause, int days) {
        RipePromises x = on("t1;" + clause);
        int set = 0;
        for (int day = 0; day < days; day++) {
            set |= x.told(12) << day;
            x.day(1);
        }
        return set;
    }

    private static void numbersInText() {
        sentence("NUMBERS have one to three figures; a word is one letter", () -> {
            sound("t05;", 5);
            sound("t005;", 5);
            faulty("t0005;", 2, 1);
            sound("t2;r000 001 009;", 2);
            faulty("t2;r000 001 0009;", 2, 12);
            faulty("t;", 1, 1);
            faulty("tt2;", 1, 1);
            faulty("t2;kk0 0;", 1, 4);
            faulty("t2;k;", 1, 4);
        });
        sentence("blanks (32) may stand anywhere but within NUMBERS; two NUMBERS side by side need one", () -> {
            sound("  t  2  ;  k  1  2  ;  ", 2);
            faulty("t2;w0 0 9 9;", 1, 10);
            faulty("t2;k0 0 0;", 1, 8);
            faulty("t2;k00;", 1, 6);
            faulty("t2;r01 1;", 4, 7);
            faulty("t2;r01 0;", 1, 8);
            faulty("t2;r0 1 1 ;r0 11;", 2, 14);
            for (int letter : new int[] {0, 9, 10, 13, 31, 33, 160, 255}) {
                faulty("t2;" + (char) letter, 1, 3);
                faulty("t" + (char) letter + "2;", 1, 1);
                faulty("t2" + (char) letter + ";", 1, 2);
                faulty("t2;k0" + (char) letter + "0;", 1, 5);
            }
        });
    }

    private static void faults() {
        sentence("FAULTS, at the first letter that has one (the end at the text's length), of these the least", () -> {
            faulty("t2;r0 5 1;q", 2, 6);
            faulty("t2;q;r0 5 1;", 1, 3);
            faulty("t", 1, 1);
            faulty("t2", 1, 2);
            faulty("t2  ", 1, 4);
            faulty("t2;p", 1, 4);
            faulty("t2;k0", 1, 5);
            faulty("t2;k0 0", 1, 7);
            faulty("t2;r1 1", 4, 6);
            faulty("t2;k2", 2, 4);
            faulty("t2;r0 0000 1;", 2, 6);
            faulty("t2;r2 2 1;", 2, 4);
            faulty("t2;w0 5 1;", 2, 8);
            faulty("t2;w0 5 0005;", 2, 8);
            faulty("t2 5000;", 1, 3);
            faulty("5000", 1, 0);
            faulty("t2;" + ROAD.repeat(8) + "5", 1, 59);
        });
        sentence("1 it cannot stand there (a letter that is no word, another word first than 't')", () -> {
            for (int letter = 0; letter < 256; letter++) {
                if ("trkpw ".indexOf(letter) < 0) {
                    faulty("t2;" + (char) letter, 1, 3);
                }
                if (letter != 't' && letter != ' ') {
                    faulty((char) letter + "", 1, 0);
                }
                if (letter != ' ' && (letter < '0' || letter > '9')) {
                    faulty("t2;k0 " + (char) letter, 1, 6);
                }
                if (letter != ';' && letter != ' ' && (letter < '0' || letter > '9')) {
                    faulty("t2;k0 0" + (char) letter, 1, 7);
                }
            }
        });
        sentence("2 a NUMBER of four figures or more, or out of its bounds", () -> {
            faulty("t1000;", 2, 1);
            faulty("t4294967297;", 2, 1);
            faulty("t18446744073709551617;", 2, 1);
            faulty("t" + "0".repeat(249), 2, 1);
            faulty("t" + "9".repeat(249), 2, 1);
            faulty("t999;", 2, 1);
            faulty("t2;k0 0;p0 0 0000000060 0 1 9;", 2, 13);
        });
        sentence("3 't', 'w' again, a ninth 'r', a fourth 'k', an eighth 'p' (at it)", () -> {
            faulty("t2;  t9;", 3, 5);
            faulty("t2;w0 0 2; w9999;", 3, 11);
            faulty("t2;" + ROAD.repeat(8) + "r9 9 9;", 3, 59);
            faulty("t2;" + KEEPER.repeat(3) + "k9 9;", 3, 18);
            faulty("t2;" + KEEPER + PROMISE.repeat(7) + "p9;", 3, 99);
        });
        sentence("4 B like A (at the B); L of N or more (at the N)", () -> {
            faulty("t3;r2  002 1;", 4, 7);
            faulty("t3;w0 2  2;", 4, 9);
            faulty("t3;w0 3 2;", 4, 8);
            sound("t3;w0 1 2;", 3);
            sound("t3;w0 97 98;", 3);
            faulty("t3;w0 98 98;", 4, 9);
        });
    }

    private static void newAndFeed() {
        sentence("`RipePromises()`: No TOWNS.", () -> {
            RipePromises x = new RipePromises();
            are("told", toldAll(x), 0, 0, 0, 0, 0, 0, 0, 0, 0, 0, 0, 0, 0);
            are("nothing there", row(x.far(0, 0), x.keeper(0, 0), x.promise(0, 0), x.fault(), x.seed(0)), UNKNOWN, UNKNOWN, UNKNOWN, NONE, 0);
        });
        sentence("A letter (0 .. 255) comes behind THE TEXT: how many it has. OUTSIDE, FULL (250).", () -> {
            RipePromises x = new RipePromises();
            are("bounds", row(x.feed(-1), x.feed(0), x.feed(255), x.feed(256), x.told(4)), OUTSIDE, 1, 2, OUTSIDE, 2);
            are("far out", row(x.feed(Integer.MIN_VALUE), x.feed(Integer.MAX_VALUE), x.feed(116 + 256)), OUTSIDE, OUTSIDE, OUTSIDE);
            RipePromises y = new RipePromises();
            for (int i = 1; i <= 250; i++) {
                is("letter " + i, y.feed(' '), i);
            }
            are("full; OUTSIDE comes first", row(y.feed(' '), y.feed('t'), y.feed(-1), y.feed(256), y.told(4)), FULL, FULL, OUTSIDE, OUTSIDE, 250);
            are("empty again", row(y.land(), y.told(4), y.feed('t')), 0, 0, 1);
        });
    }

    private static void landAndFault() {
        sentence("THE TEXT (it is empty then, with a FAULT, too) becomes THE LAND", () -> {
            RipePromises x = new RipePromises();
            are("without a fault", row(tell(x, "t2;"), x.told(4), x.told(0)), 2, 0, 2);
            are("with one", row(tell(x, "t3;x"), x.told(4), x.told(0)), -11, 0, 2);
            are("what is told next starts anew", row(tell(x, "t4;"), x.told(0)), 4, 4);
            tell(x, "t2;         ");
            are("of a longer text nothing is left", row(tell(x, "t2;k0"), x.fault(), tell(x, "t5"), x.fault(), tell(x, "t5;"), x.told(2)), -11, 5, -11, 2, 5, 0);
            tell(x, "t1;k0 0;p0 0 1 0 1 9;w0 1 2;");
            are("of a winter, too", row(x.told(12), x.promise(0, 7), tell(x, "t1;k0 0;p0 0 1 0 1 9;"), x.told(12), x.promise(0, 7)), 1, 2, 1, 0, 1);
            are("told again it is no second one", row(tell(x, "t1;w1 1 2;"), tell(x, "t1;w0 1 2;"), x.told(12)), 1, 1, 1);
        });
        sentence("(day 0, all OPEN; nothing fell, no BOOK; IMAGES, DAYS to be undone are gone; THE SEED stays)", () -> {
            RipePromises x = on(PLAIN);
            x.takeDown(0);
            x.go(0, 1);
            x.image(0);
            x.image(1);
            x.day(4);
            x.write(0, 5);
            x.seed(99);
            is("again", tell(x, PLAIN), 4);
            are("told", toldAll(x), 4, 3, 2, 3, 0, 0, 7, 0, 0, 0, 0, 0, 0);
            are("fell, images, days", row(x.fell(0), x.fell(1), x.fell(2), x.goBack(0), x.goBack(1), x.undo(1)), 0, 0, 0, NOT, NOT, NOT);
            are("keepers, promises, the seed", row(x.keeper(0, 0), x.keeper(0, 2), x.promise(0, 8), x.seed(0)), 0, 0, NONE, 99);
        });
        sentence("how many TOWNS; -10 less the number of its FAULT (all else is as it was)", () ->
            are("0, 1, 5; faults 1 to 4", row(tell(new RipePromises(), ""), tell(new RipePromises(), "t1;"), tell(new RipePromises(), "t5;"),
                tell(new RipePromises(), "x"), tell(new RipePromises(), "t6;"), tell(new RipePromises(), "t2;t"), tell(new RipePromises(), "t2;r0 0 1;")),
                0, 1, 5, -11, -12, -13, -14));
        sentence("The place (from 0 on) of the letter that has the FAULT of the latest land(); NONE.", () -> {
            RipePromises x = new RipePromises();
            are("before any", row(x.fault()), NONE);
            are("at the first letter", row(tell(x, "x"), x.fault()), -11, 0);
            feedAll(x, "t1; ");
            is("till the next land", x.fault(), 0);
            are("none", row(x.land(), x.fault()), 1, NONE);
            are("at the end of a full text", row(tell(x, "t1;" + " ".repeat(246) + "k"), x.fault()), -11, 250);
            are("at the last letter of one", row(tell(x, "t1;" + " ".repeat(246) + "t"), x.fault()), -13, 249);
            are("of the latest one, not of the one before", row(tell(x, "t1;t"), x.fault(), tell(x, "t9"), x.fault(), x.land(), x.fault()), -13, 3, -12, 1, 0, NONE);
        });
    }

    public static void main(String[] args) {
        numbersAndAnswers();
        theText();
        towns();
        roads();
        keepers();
        promises();
        winter();
        numbersInText();
        faults();
        newAndFeed();
        landAndFault();
        end("TextEdges");
    }
}
