/** Section 2 of the document and promises 5 to 16: a test for each sentence that names an edge. */
public final class DayEdges extends Check {
    private static final int LATEST = 9000;

    private static void far() {
        sentence("FAR: the fewest days from TOWN to TOWN by ROADS (0 to itself; NONE).", () -> {
            RipePromises x = on("t5;r0 1 1;r1 2 1;r2 3 1;r0 3 9;r0 3 4;r3 0 5;");
            are("by three roads, shorter than one; the shortest of several", row(x.far(0, 3), x.far(3, 0), x.far(1, 3), x.far(0, 2)), 3, 3, 2, 2);
            are("no way", row(x.far(0, 4), x.far(4, 3)), NONE, NONE);
            are("to itself, with roads or none", row(x.far(0, 0), x.far(4, 4)), 0, 0);
            RipePromises chain = on("t5;r4 0 9;r0 3 9;r3 1 9;r1 2 9;");
            are("by all four", row(chain.far(4, 2), chain.far(2, 4)), 36, 36);
        });
        sentence("FAR (0 to itself); NONE. UNKNOWN.", () -> {
            RipePromises x = on("t3;r0 1 2;");
            are("the last town and the next", row(x.far(2, 2), x.far(3, 3), x.far(2, 3), x.far(3, 2)), 0, UNKNOWN, UNKNOWN, UNKNOWN);
            are("below 0", row(x.far(-1, 0), x.far(0, -1), x.far(Integer.MIN_VALUE, 0), x.far(0, Integer.MAX_VALUE)), UNKNOWN, UNKNOWN, UNKNOWN, UNKNOWN);
        });
    }

    private static void ripe() {
        sentence("It was GIVEN on day 0; a grafted one on the day on which that one was KEPT (not GIVEN before).", () -> {
            RipePromises x = on("t1;k0 0;p0 0 2 5 1 9;p0 0 3 5 1 0;p0 0 1 5 1 1;");
            are("not given", row(x.promise(0, 7), x.promise(1, 7), x.promise(2, 7)), 2, NONE, NONE);
            x.day(4);
            are("kept on day 4, not on its first one", row(x.keep(0), x.promise(1, 7), x.promise(2, 7)), 1, 7, NONE);
            x.day(3);
            are("the next", row(x.keep(2), x.keep(1), x.promise(2, 7), x.keep(2)), NOT, 1, 8, NOT);
        });
        sentence("RIPE: the day behind the A-th day, from the day on that it was GIVEN, that is none of WINTER", () -> {
            RipePromises x = on("t1;k0 0;p0 0 1 9 1 9;p0 0 2 9 1 9;p0 0 3 9 1 9;p0 0 4 9 1 9;p0 0 60 9 1 9;w2 2 5;");
            are("days 0, 1, 4, 5, 6, 9 ..", row(x.promise(0, 7), x.promise(1, 7), x.promise(2, 7), x.promise(3, 7)), 1, 2, 5, 6);
            is("60 by threes: 20 rounds of 5", x.promise(4, 7), 100);
            RipePromises cold = on("t1;k0 0;p0 0 1 9 1 9;p0 0 60 9 1 9;w0 98 99;");
            are("one day of 99", row(cold.promise(0, 7), cold.promise(1, 7)), 99, 5940);
            RipePromises warm = on("t1;k0 0;p0 0 1 9 1 9;p0 0 60 9 1 9;");
            are("no winter", row(warm.promise(0, 7), warm.promise(1, 7)), 1, 60);
        });
        sentence("it may be KEPT from that day on for S days more", () -> {
            for (int slack = 0; slack <= 9; slack += 3) {
                String text = "t1;k0 0;p0 0 4 " + slack + " 7 9;";
                are("a day before", row(on(text).day(3), dayThenKeep(text, 3)), 3, NOT);
                are("on the first day", row(dayThenKeep(text, 4)), 7);
                are("on the last day", row(dayThenKeep(text, 4 + slack)), 7);
                are("a day behind", row(dayThenKeep(text, 5 + slack)), NOT);
            }
            RipePromises x = on("t1;k0 0;p0 0 1 2 7 9;w1 3 9;");
            are("in winter, too", row(x.day(1), x.told(12), x.keep(0)), 1, 1, 7);
            RipePromises y = on("t1;k0 0;p0 0 1 2 7 9;w1 3 9;");
            are("slack is no age: days of winter count", row(y.day(3), y.keep(0), dayThenKeep("t1;k0 0;p0 0 1 2 7 9;w1 3 9;", 4)), 3, 7, NOT);
        });
    }

    private static int dayThenKeep(String text, int day) {
        RipePromises x = on(text);
        daysTo(x, day);
        return x.keep(0);
    }

    private static void keeping() {
        sentence("A KEEPER is in a TOWN, or on the way to one, there on a day.", () -> {
            RipePromises x = on("t2;r0 1 4;k0 0;");
            are("in a town, then on the way for 4 days, then in the other", row(x.plan(0, NONE), x.go(0, 1), x.plan(0, NONE), x.day(3), x.plan(0, NONE), x.day(1), x.plan(0, NONE)), 0, 4, NOT, 3, NOT, 4, 0);
        });
        sentence("TO KEEP: its KEEPER is there on that day.", () -> {
            RipePromises x = on("t2;r0 1 3;k0 0;k1 0;p0 1 1 9 5 9;p0 0 1 9 4 9;");
            x.day(1);
            are("in another town", row(x.keep(0), x.go(0, 1), x.keep(1)), NOT, 4, NOT);
            are("a day before it comes", row(x.day(2), x.keep(0)), 3, NOT);
            are("on the day on which it comes", row(x.day(1), x.keep(0), x.keep(1)), 4, 5, NOT);
        });
        sentence("A PROMISE is KEPT: its SIZE. UNKNOWN, NOT: not OPEN, its KEEPER is not there, not RIPE.", () -> {
            RipePromises x = on("t2;k0 0;k1 0;p0 0 1 5 9 9;p0 0 2 5 1 9;p0 0 1 0 2 9;p0 0 9 0 3 9;p1 0 1 9 4 9;p0 0 1 1 5 0;");
            are("unknown", row(x.keep(-1), x.keep(6), x.keep(Integer.MIN_VALUE), x.keep(Integer.MAX_VALUE)), UNKNOWN, UNKNOWN, UNKNOWN, UNKNOWN);
            x.takeDown(3);
            x.day(1);
            are("ripe today, ripe tomorrow, its keeper elsewhere, not given", row(x.keep(0), x.keep(1), x.keep(4), x.keep(5)), 9, NOT, NOT, NOT);
            x.day(1);
            are("kept, fallen, taken down", row(x.keep(0), x.keep(2), x.keep(3)), NOT, NOT, NOT);
            are("the rest", row(x.keep(1), x.keep(5), x.promise(0, 8), x.promise(1, 8), x.promise(5, 8)), 1, 5, 1, 2, 2);
        });
    }

    private static void takingDown() {
        sentence("TAKEN DOWN: before it is RIPE (not GIVEN, too), half of its SIZE (cut) falls on the FAMILY of its KEEPER.", () -> {
            int[] halves = {0, 1, 1, 2, 2, 3, 3, 4, 4};
            for (int size = 1; size <= 9; size++) {
                RipePromises x = on("t1;k0 0;k0 2;p1 0 3 9 " + size + " 9;");
                are("size " + size, row(x.takeDown(0), x.fell(0), x.fell(2), x.told(9)), halves[size - 1], 0, halves[size - 1], 1);
            }
            String text = "t1;k0 1;p0 0 3 9 8 9;p0 0 3 9 6 0;";
            RipePromises before = on(text);
            are("the day before it is ripe", row(before.day(2), before.takeDown(0), before.fell(1), before.promise(0, 8)), 2, 4, 4, 2);
            RipePromises ripe = on(text);
            are("on the day on which it is ripe", row(ripe.day(3), ripe.takeDown(0), ripe.fell(1)), 3, NOT, 0);
            RipePromises given = on(text);
            are("not given; the older one stays", row(given.takeDown(1), given.fell(1), given.told(6), given.told(9)), 3, 3, 1, 2);
            is("its day", given.promise(1, 8), 0);
        });
        sentence("/ cuts towards 0", () -> {
            RipePromises x = on("t1;k0 0;p0 0 3 9 9 9;p0 0 3 9 1 9;p0 0 3 9 1 9;");
            are("9 / 2, 1 / 2; of a thousand each day", row(x.takeDown(0), x.takeDown(1), x.lives(2, 1), x.lives(2, 998)), 4, 0, 997002999, 8);
        });
        sentence("A PROMISE is TAKEN DOWN (with those grafted on it): what falls. UNKNOWN, NOT: not OPEN, RIPE already.", () -> {
            RipePromises x = on("t1;k0 0;p0 0 9 0 9 9;p0 0 9 0 9 0;p0 0 9 0 9 1;p0 0 1 5 9 9;p0 0 1 0 9 9;p0 0 1 5 9 9;");
            are("unknown", row(x.takeDown(-1), x.takeDown(6), x.takeDown(7), x.takeDown(Integer.MAX_VALUE)), UNKNOWN, UNKNOWN, UNKNOWN, UNKNOWN);
            are("a chain: what falls by the first alone", row(x.takeDown(0), x.fell(0), x.told(9)), 4, 4, 7);
            are("not open", row(x.takeDown(0), x.takeDown(1), x.takeDown(2), x.fell(0)), NOT, NOT, NOT, 4);
            x.day(2);
            x.keep(5);
            are("ripe, fallen, kept", row(x.takeDown(3), x.takeDown(4), x.takeDown(5), x.fell(0)), NOT, NOT, NOT, 13);
        });
        sentence("one that is grafted on one that is FALLEN, TAKEN DOWN, is TAKEN DOWN with it (nothing falls by it)", () -> {
            String chain = "t1;k0 0;k0 1;p0 0 2 1 9 9;p1 0 1 9 9 0;p0 0 1 9 9 1;p1 0 1 9 9 2;p0 0 1 9 9 3;p1 0 1 9 9 4;p0 0 1 9 9 9;";
            RipePromises x = on(chain + "w0 0 2;");
            are("its last day is 3", row(x.day(3), x.told(6), x.day(1), x.told(8), x.told(9), x.told(6)), 3, 127, 4, 1, 62, 64);
            are("the days, and what fell", row(x.promise(0, 8), x.promise(1, 8), x.promise(5, 8), x.fell(0), x.fell(1)), 3, 3, 3, 9, 0);
            RipePromises y = on(chain);
            are("taken down on day 1", row(y.day(1), y.takeDown(0), y.told(9), y.promise(5, 8), y.fell(0), y.fell(1)), 1, 4, 63, 1, 4, 0);
            RipePromises kept = on(chain);
            kept.day(2);
            kept.keep(0);
            are("from the middle of a chain on", row(kept.takeDown(1), kept.told(9), kept.told(7), kept.told(6), kept.fell(1)), 4, 62, 1, 64, 4);
        });
    }

    private static void falling() {
        sentence("FALLS: at the end of the last day on which it may be KEPT: its SIZE falls on that FAMILY", () -> {
            RipePromises x = on("t1;k0 0;k0 2;p0 0 3 0 5 9;p1 0 2 2 7 9;");
            are("not yet on day 3 and 4", row(x.day(3), x.told(8), x.day(1), x.told(8), x.fell(0), x.fell(2)), 3, 0, 4, 1, 5, 0);
            are("then", row(x.day(1), x.told(8), x.fell(0), x.fell(2), x.promise(0, 8), x.promise(1, 8)), 5, 3, 5, 7, 3, 4);
            RipePromises y = on("t1;k0 0;k0 0;p0 0 1 0 5 9;p1 0 1 0 7 9;");
            are("on one family from two keepers", row(y.day(2), y.fell(0)), 2, 12);
            RipePromises kept = on("t1;k0 0;p0 0 1 0 5 9;");
            are("what is kept does not", row(kept.day(1), kept.keep(0), kept.day(5), kept.told(8), kept.fell(0)), 1, 5, 6, 0, 0);
        });
        sentence("A DAY: PROMISES whose last day it is FALL, rising; the day is one more; who comes to a TOWN on it is there.", () -> {
            RipePromises x = on("t2;r0 1 9;k0 0;p0 1 9 0 5 9;p0 0 1 9 5 9;");
            x.go(0, 1);
            are("on the way for 9 days", row(x.day(8), x.go(0, 0), x.keep(0), x.keeper(0, 2), x.plan(0, NONE)), 8, NOT, NOT, 9, NOT);
            are("there on the ninth", row(x.day(1), x.keep(0), x.go(0, 0)), 9, 5, 18);
            RipePromises y = on("t1;k0 0;" + "p0 0 1 0 9 9;".repeat(7));
            are("all seven at once", row(y.day(2), y.told(8), y.fell(0), y.told(6)), 2, 127, 63, 0);
        });
        sentence("What fell on a FAMILY (0 .. 2). UNKNOWN.", () -> {
            RipePromises x = on("t1;k0 0;k0 2;p0 0 1 0 5 9;p1 0 1 0 7 9;");
            x.day(2);
            are("0 to 2", row(x.fell(-1), x.fell(0), x.fell(1), x.fell(2), x.fell(3)), UNKNOWN, 5, 0, 7, UNKNOWN);
            are("far out", row(x.fell(Integer.MIN_VALUE), x.fell(Integer.MAX_VALUE)), UNKNOWN, UNKNOWN);
        });
    }

    private static void told() {
        sentence("0 TOWNS, 1 ROADS, 2 KEEPERS, 3 PROMISES, 4 letters of THE TEXT, 5 the day, 6 OPEN ones (a SET), 7 KEPT, 8 FALLEN, 9 TAKEN DOWN (SETS), 10 lines of THE BOOK, 11 DAYS that can be undone, 12 whether it is WINTER today (1, 0). OUTSIDE.", () -> {
            RipePromises x = on("t4;r0 1 2;r1 2 3;k0 0;k0 0;k0 1;p0 0 1 9 1 9;p0 0 1 0 1 9;p0 0 9 0 1 9;p0 0 9 0 1 9;p0 0 9 0 1 9;w3 1 4;");
            x.takeDown(3);
            x.day(3);
            x.keep(0);
            feedAll(x, "t5;");
            x.write(4, 9);
            are("all", toldAll(x), 4, 2, 3, 5, 3, 3, 20, 1, 2, 8, 1, 3, 1);
            are("the least, the greatest, beyond", row(x.told(0), x.told(12), x.told(-1), x.told(13)), 4, 1, OUTSIDE, OUTSIDE);
            are("far out", row(x.told(Integer.MIN_VALUE), x.told(Integer.MAX_VALUE)), OUTSIDE, OUTSIDE);
        });
        sentence("Of a KEEPER: what = 0 TOWN (where it is, or will be), 1 FAMILY, 2 on which day it is (was) there, 3 its PROMISES (a SET). UNKNOWN, OUTSIDE.", () -> {
            RipePromises x = on("t2;r0 1 3;k0 2;k1 1;p1 0 1 0 1 9;p0 0 1 0 1 9;");
            are("at first", keeperAll(x, 0), 0, 2, 0, 2);
            x.day(1);
            x.go(0, 1);
            are("on the way: where it will be", keeperAll(x, 0), 1, 2, 4, 2);
            x.day(9);
            are("where it came, what fell is its own still", keeperAll(x, 0), 1, 2, 4, 2);
            are("wrong", row(x.keeper(-1, 0), x.keeper(2, 0), x.keeper(0, -1), x.keeper(0, 4)), UNKNOWN, UNKNOWN, OUTSIDE, OUTSIDE);
            are("both", row(x.keeper(-1, -1), x.keeper(2, 4)), UNKNOWN, UNKNOWN);
        });
        sentence("Of a PROMISE: what = 0 KEEPER, 1 TOWN, 2 AGE, 3 SLACK, 4 SIZE, 5 G (NONE), 6 how it is (0 OPEN, 1 KEPT, 2 FALLEN, 3 TAKEN DOWN), 7 RIPE (NONE: not GIVEN, never), 8 the day on which it was KEPT, FELL, was TAKEN DOWN (NONE). UNKNOWN, OUTSIDE.", () -> {
            RipePromises x = on("t1;k0 0;p0 0 1 2 1 9;p0 0 1 0 2 9;p0 0 9 0 3 9;p0 0 9 0 4 1;p0 0 4 1 5 0;");
            x.takeDown(2);
            x.day(3);
            x.keep(0);
            are("kept", promiseAll(x, 0), 0, 0, 1, 2, 1, NONE, 1, 1, 3);
            are("fallen", promiseAll(x, 1), 0, 0, 1, 0, 2, NONE, 2, 1, 1);
            are("taken down", promiseAll(x, 2), 0, 0, 9, 0, 3, NONE, 3, 9, 0);
            are("taken down with the fallen one: never given", promiseAll(x, 3), 0, 0, 9, 0, 4, 1, 3, NONE, 1);
            are("open", promiseAll(x, 4), 0, 0, 4, 1, 5, 0, 0, 7, NONE);
            are("wrong", row(x.promise(-1, 0), x.promise(5, 0), x.promise(0, -1), x.promise(0, 9)), UNKNOWN, UNKNOWN, OUTSIDE, OUTSIDE);
            are("both", row(x.promise(-1, 9), x.promise(5, -1)), UNKNOWN, UNKNOWN);
        });
    }

    private static void going() {
        sentence("A KEEPER goes to a TOWN: on which day it is there. UNKNOWN, NOT: it is on the way, is there, there is no way.", () -> {
            RipePromises x = on("t4;r0 1 1;r1 2 9;k0 0;k1 1;");
            are("unknown", row(x.go(-1, 0), x.go(2, 0), x.go(0, -1), x.go(0, 4), x.go(2, 4)), UNKNOWN, UNKNOWN, UNKNOWN, UNKNOWN, UNKNOWN);
            are("is there; no way", row(x.go(0, 0), x.go(0, 3), x.go(1, 1), x.go(1, 3)), NOT, NOT, NOT, NOT);
            are("by two roads; the other keeper by one", row(x.go(0, 2), x.go(1, 0)), 10, 1);
            are("on the way: there, back, on, with no way", row(x.go(0, 2), x.go(0, 0), x.go(0, 1), x.go(0, 3)), NOT, NOT, NOT, NOT);
            are("unknown on the way", row(x.go(0, 4)), UNKNOWN);
            are("it is there on day 10", row(x.day(9), x.go(0, 0), x.day(1), x.go(0, 2), x.go(0, 0)), 9, NOT, 10, NOT, 20);
        });
    }

    private static void days() {
        sentence("DAYS are counted from 0.", () -> are("the day", row(on("t1;").told(5), on("t1;").day(1)), 0, 1));
        sentence("n DAYS (1 .. 99): the day. OUTSIDE, NOT: no TOWNS; FULL: the day is above 9000 (as it is called).", () -> {
            RipePromises x = on("t1;");
            are("bounds", row(x.day(-1), x.day(0), x.day(1), x.day(99), x.day(100)), OUTSIDE, OUTSIDE, 1, 100, OUTSIDE);
            are("far out", row(x.day(Integer.MIN_VALUE), x.day(Integer.MAX_VALUE)), OUTSIDE, OUTSIDE);
            RipePromises none = new RipePromises();
            are("no towns", row(none.day(1), none.day(99), none.day(0), none.day(100)), NOT, NOT, OUTSIDE, OUTSIDE);
            daysTo(x, LATEST - 1);
            are("8999, 9000, then beyond", row(x.day(1), x.day(99), x.day(1), x.day(0)), LATEST, LATEST + 99, FULL, OUTSIDE);
            RipePromises next = on("t1;");
            daysTo(next, LATEST);
            are("9001 is above", row(next.day(1), next.day(1), next.day(99), next.day(100)), LATEST + 1, FULL, FULL, OUTSIDE);
            are("back to 9000", row(next.undo(1), next.day(1), next.drift(1)), LATEST, LATEST + 1, FULL);
        });
    }

    private static void swapping() {
        sentence("Two OPEN PROMISES of one SIZE change KEEPERS: 1. UNKNOWN, NOT: not OPEN, unlike SIZES.", () -> {
            RipePromises x = on("t1;k0 0;k0 1;p0 0 9 0 4 9;p1 0 9 0 4 9;p1 0 9 0 5 9;p1 0 9 0 4 0;p0 0 1 0 4 9;p0 0 1 5 4 9;p0 0 9 0 4 9;");
            are("unknown", row(x.swap(-1, 0), x.swap(0, -1), x.swap(7, 0), x.swap(0, 7), x.swap(7, 7), x.swap(-1, -1)), UNKNOWN, UNKNOWN, UNKNOWN, UNKNOWN, UNKNOWN, UNKNOWN);
            are("unlike sizes", row(x.swap(0, 2), x.swap(2, 0)), NOT, NOT);
            are("one and the other", row(x.swap(0, 1), x.promise(0, 0), x.promise(1, 0), x.swap(0, 1), x.promise(0, 0), x.promise(1, 0)), 1, 1, 0, 1, 0, 1);
            are("one not given, with what it is grafted on", row(x.swap(0, 3), x.promise(0, 0), x.promise(3, 0)), 1, 1, 0);
            x.takeDown(6);
            x.day(2);
            x.keep(5);
            are("fallen, kept, taken down; each way", row(x.swap(0, 4), x.swap(4, 0), x.swap(0, 5), x.swap(5, 0), x.swap(0, 6), x.swap(6, 0)), NOT, NOT, NOT, NOT, NOT, NOT);
            are("not open and unlike; one of one keeper", row(x.swap(2, 4), x.swap(0, 0), x.swap(4, 4)), NOT, UNKNOWN, UNKNOWN);
        });
        sentence("UNKNOWN (a TOWN, KEEPER, PROMISE, FAMILY, IMAGE that there is not; one twice; bits of such)", () -> {
            RipePromises x = on("t1;k0 0;p0 0 9 0 4 9;p0 0 9 0 4 9;");
            are("one twice", row(x.swap(0, 0), x.swap(1, 1), x.swap(0, 1)), UNKNOWN, UNKNOWN, 1);
            x.takeDown(0);
            is("one twice that is not open", x.swap(0, 0), UNKNOWN);
        });
    }

    private static void draws() {
        sentence("(0 at first: each DRAW it becomes it times 1103515245 and 12345, left over by 2 to the 31; the DRAW of n is it / 65536, left over by n)", () -> {
            RipePromises x = on("t5;k0 0;");
            are("from 0", row(x.drift(1), x.seed(0)), 1, 12345);
            x.seed(Integer.MAX_VALUE);
            x.drift(1);
            is("from the greatest", x.seed(0), (2147483647L * 1103515245L + 12345L) % 2147483648L);
            x.seed(12345);
            x.drift(3);
            is("three", x.seed(0), 1449466924);
        });
        sentence("n days: KEEPER by KEEPER", () -> {
            RipePromises x = on("t3;r0 1 1;r0 2 1;k0 0;k0 0;k0 0;");
            x.seed(seedFor(6, 1, 5, 2));
            are("draws 1, 5, 2", row(x.drift(1), x.keeper(0, 0), x.keeper(1, 0), x.keeper(2, 0)), 1, 1, 0, 2);
            RipePromises days = on("t3;r0 1 1;r0 2 1;k0 0;k0 0;");
            days.seed(seedFor(6, 1, 5, 5, 2, 0));
            are("day by day: 1, 5; 5, 2; 0 and what comes", row(days.drift(2), days.keeper(0, 0), days.keeper(1, 0), days.drift(1), days.keeper(0, 0)), 2, 1, 2, 3, 0);
        });
        sentence("(who is on the way does nothing, has no DRAW)", () -> {
            RipePromises x = on("t2;r0 1 9;k0 0;k0 0;k0 0;p0 1 1 9 5 9;");
            x.go(0, 1);
            x.go(1, 1);
            x.go(2, 1);
            are("all are", row(x.drift(8), x.seed(0), x.keeper(0, 0), x.told(7)), 8, 0, 1, 0);
            are("there on day 9: its draws begin on that day", row(x.drift(1), x.seed(0)), 9, 0);
            x.drift(1);
            are("three draws, and it keeps", row(x.seed(0), x.told(7), x.promise(0, 8)), 654583775, 1, 9);
            RipePromises y = on("t2;r0 1 9;k0 0;k0 0;");
            y.go(0, 1);
            y.seed(seedFor(4, 1, 0));
            are("the first draw is the other's", row(y.drift(1), y.keeper(1, 0), y.keeper(1, 2)), 1, 1, 9);
        });
        sentence("it keeps all that it can, rising; then a DRAW of twice as many as there are TOWNS", () -> {
            RipePromises x = on("t2;r0 1 3;k0 0;p0 0 1 1 1 9;p0 0 1 1 1 9;p0 0 1 9 1 0;p0 1 1 9 1 9;");
            x.day(1);
            x.seed(seedFor(4, 1));
            are("what is here, then it goes", row(x.drift(1), x.told(7), x.told(6), x.keeper(0, 0), x.keeper(0, 2)), 2, 3, 12, 1, 4);
            RipePromises last = on("t1;k0 0;p0 0 1 1 1 9;");
            are("on the last day, ahead of the day's end", row(last.day(2), last.drift(1), last.told(7), last.told(8)), 2, 3, 1, 0);
        });
        sentence("if that is a TOWN, and not the one where it is, it goes there, if there is a way; then the DAY", () -> {
            String text = "t3;r0 1 2;r1 2 2;k0 0;";
            int[] goesTo = {0, 1, 2, 0, 0, 0};
            int[] thereOn = {0, 2, 4, 0, 0, 0};
            for (int draw = 0; draw < 6; draw++) {
                RipePromises x = on(text);
                x.seed(seedFor(6, draw));
                are("the draw " + draw, row(x.drift(1), x.keeper(0, 0), x.keeper(0, 2)), 1, goesTo[draw], thereOn[draw]);
            }
            RipePromises apart = on("t3;r0 1 2;k0 0;");
            apart.seed(seedFor(6, 2));
            are("no way", row(apart.drift(1), apart.keeper(0, 0), apart.keeper(0, 2)), 1, 0, 0);
            RipePromises one = on("t1;k0 0;");
            are("one town: draws of 2", row(one.drift(5), one.keeper(0, 0), one.keeper(0, 2), one.seed(0)), 5, 0, 0, 229283573);
        });
        sentence("n days BY DRAWS (1 .. 99): the day. OUTSIDE, NOT: no TOWNS; FULL: the day is above 9000 (as it is called).", () -> {
            RipePromises x = on("t1;k0 0;");
            are("bounds", row(x.drift(-1), x.drift(0), x.drift(1), x.drift(99), x.drift(100)), OUTSIDE, OUTSIDE, 1, 100, OUTSIDE);
            are("far out", row(x.drift(Integer.MIN_VALUE), x.drift(Integer.MAX_VALUE)), OUTSIDE, OUTSIDE);
            RipePromises none = new RipePromises();
            are("no towns", row(none.drift(1), none.drift(99), none.drift(0), none.drift(100), none.seed(0)), NOT, NOT, OUTSIDE, OUTSIDE, 0);
            daysTo(x, LATEST);
            are("9000, 9099", row(x.drift(99), x.drift(1), x.drift(0)), LATEST + 99, FULL, OUTSIDE);
            RipePromises next = on("t1;");
            daysTo(next, LATEST);
            are("9001 is above; no keepers, no draws", row(next.drift(1), next.drift(1), next.seed(0)), LATEST + 1, FULL, 0);
        });
    }

    private static void undoing() {
        sentence("UNDONE: the latest DAYS since the text or IMAGE (30 at most are kept), with all that was done since; THE SEED stays.", () -> {
            RipePromises x = on("t2;r0 1 2;k0 0;k0 0;p0 0 1 0 2 9;p0 0 9 0 4 9;p0 0 9 0 2 9;p1 0 9 0 2 9;");
            x.day(1);
            x.keep(0);
            x.go(0, 1);
            x.takeDown(1);
            x.swap(2, 3);
            are("a day with all that was done on it", row(x.undo(1), x.told(7), x.told(9), x.keeper(0, 0), x.keeper(0, 2), x.fell(0), x.promise(2, 0), x.promise(0, 8)), 0, 0, 0, 0, 0, 0, 0, NONE);
            are("what fell at a day's end, too", row(x.day(2), x.told(8), x.fell(0), x.undo(1), x.told(8), x.fell(0), x.keep(0)), 2, 1, 2, 1, 0, 0, 2);
            x.seed(4);
            are("the seed stays", row(x.drift(1), x.undo(1), x.seed(0) == 4 ? 1 : 0), 2, 1, 0);
            x.seed(6);
            are("as it was put, too", row(x.day(1), x.seed(7), x.undo(1), x.seed(0)), 2, 6, 1, 7);
        });
        sentence("The n latest DAYS (1 .. 30) are undone: the day. OUTSIDE, NOT: not so many.", () -> {
            RipePromises x = on("t1;k0 0;p0 0 1 0 2 9;");
            are("bounds, with none to undo", row(x.undo(-1), x.undo(0), x.undo(1), x.undo(30), x.undo(31)), OUTSIDE, OUTSIDE, NOT, NOT, OUTSIDE);
            are("far out", row(x.undo(Integer.MIN_VALUE), x.undo(Integer.MAX_VALUE)), OUTSIDE, OUTSIDE);
            x.day(29);
            are("29: 30 are too many", row(x.told(11), x.undo(30), x.undo(29), x.told(5), x.told(11), x.undo(1)), 29, NOT, 0, 0, 0, NOT);
            x.day(30);
            are("30", row(x.told(11), x.undo(30), x.told(5), x.told(8)), 30, 0, 0, 0);
            x.day(31);
            are("31: 30 are kept", row(x.told(11), x.undo(31), x.undo(30), x.told(5), x.undo(1)), 30, OUTSIDE, 1, 1, NOT);
            x.day(99);
            are("100 days: from 70 on; some at a time", row(x.told(11), x.undo(1), x.undo(2), x.told(11), x.undo(28), x.undo(27), x.undo(1)), 30, 99, 97, 27, NOT, 70, NOT);
            x.day(2);
            are("and on", row(x.told(11), x.undo(2), x.told(11)), 2, 70, 0);
            x.day(1);
            are("no towns", row(x.land(), x.undo(1), x.undo(0)), 0, NOT, OUTSIDE);
        });
        sentence("11 DAYS that can be undone", () -> {
            RipePromises x = on("t1;");
            are("by day, by draws, 30 at most", row(x.told(11), x.day(5), x.told(11), x.drift(24), x.told(11), x.drift(1), x.told(11), x.day(1), x.told(11)), 0, 5, 5, 29, 29, 30, 30, 31, 30);
            are("an image, a way back", row(x.image(1), x.told(11), x.day(3), x.told(11), x.goBack(1), x.told(11), x.undo(1)), 1, 0, 34, 3, 1, 0, NOT);
        });
    }

    public static void main(String[] args) {
        far();
        ripe();
        keeping();
        takingDown();
        falling();
        told();
        going();
        days();
        swapping();
        draws();
        undoing();
        end("DayEdges");
    }
}
