/** What is tried of section 3, promises 17 to 25: a test for each sentence that names an edge. */
public final class TriedEdges extends Check {
    private static final int AGES = 0x7ffffffe;

    private static void plan() {
        sentence("PLAN of a KEEPER: an order of all OPEN ones that it has", () -> {
            RipePromises x = on("t1;k0 0;k0 0;p0 0 2 9 1 9;p0 0 1 9 1 9;p1 0 1 9 1 9;p0 0 1 0 1 9;p0 0 9 9 1 9;");
            are("its own ones", planAll(x, 0), 0, 1, 3, 0, 4);
            x.takeDown(4);
            x.day(2);
            x.keep(1);
            are("none that is kept, fallen, taken down", planAll(x, 0), 0, 0, NONE, NONE, NONE);
        });
        sentence("it goes from one's TOWN to the next one's at once, waits till it is RIPE, keeps it that day", () -> {
            are("waits in the other town: there on 2, kept on 9, back on 11", planAll(on("t2;r0 1 2;k0 0;p0 1 9 0 1 9;p0 0 11 0 1 9;"), 0), 4, 0, 1, NONE, NONE);
            are("a day too short", row(on("t2;r0 1 2;k0 0;p0 1 9 0 1 9;p0 0 10 0 1 9;").plan(0, NONE)), NONE);
            are("it may be kept on the day on which it comes, if it is ripe already", row(on("t2;r0 1 9;k0 0;p0 1 1 8 1 9;").plan(0, NONE)), 9);
            RipePromises x = on("t2;r0 1 2;k0 0;p0 1 9 0 1 9;");
            x.go(0, 1);
            x.day(2);
            are("from where it is now", row(x.plan(0, NONE), x.plan(0, 0), x.plan(0, 1)), 0, 0, NONE);
        });
        sentence("It must not be late for any.", () -> {
            for (int slack = 0; slack < 10; slack++) {
                int due = 1 + slack >= 7 ? 7 : NONE;
                is("7 days off, ripe on 1, slack " + slack, on("t2;r0 1 7;k0 0;p0 1 1 " + slack + " 1 9;").plan(0, NONE), due);
            }
            RipePromises x = on("t2;r0 1 7;k0 0;p0 1 5 4 1 9;");
            are("by day 2, not by day 3", row(x.day(2), x.plan(0, NONE), x.day(1), x.plan(0, NONE)), 2, 7, 3, NONE);
            are("no way there", row(on("t2;k0 0;p0 1 9 9 1 9;").plan(0, NONE)), NONE);
        });
        sentence("(what is grafted on it is GIVEN then; what is grafted on an OPEN one of another KEEPER is never GIVEN here)", () -> {
            are("given on the day on which it is kept: 6 and 4 is 10", planAll(on("t2;r0 1 6;k0 0;p0 1 1 9 1 9;p0 1 4 0 1 0;p0 1 10 0 1 9;"), 0), 6, 0, 1, 2, NONE);
            are("kept on 5, the younger on 6, ahead of 1 on 9", planAll(on("t1;k0 0;p0 0 5 0 1 9;p0 0 9 9 1 9;p0 0 1 0 1 0;"), 0), 0, 0, 2, 1, NONE);
            are("1 waits for 0 and is kept on 5, 2 on 6", planAll(on("t1;k0 0;p0 0 5 0 1 9;p0 0 1 9 1 9;p0 0 1 0 1 1;"), 0), 0, 0, 1, 2, NONE);
            are("not given before: 1, 2, 0 would be 3 days of travel, but 2 waits for 0", planAll(on("t2;r0 1 3;k1 0;p0 0 3 9 1 9;p0 1 1 9 1 9;p0 1 1 9 1 0;"), 0), 6, 0, 1, 2, NONE);
            RipePromises x = on("t1;k0 0;k0 0;p0 0 3 9 4 9;p1 0 1 9 4 0;");
            are("the older one is another's", row(x.plan(0, NONE), x.plan(0, 0), x.plan(1, NONE), x.plan(1, 0)), 0, 0, NONE, NONE);
            x.day(3);
            x.keep(0);
            are("it is kept: given", row(x.plan(0, NONE), x.plan(0, 0), x.plan(1, NONE), x.plan(1, 0)), 0, NONE, 0, 1);
            RipePromises both = on("t1;k0 0;k0 0;p0 0 3 9 4 9;p0 0 1 9 5 0;p1 0 9 9 4 9;");
            are("one's own", row(both.plan(0, NONE), both.plan(0, 1)), 0, 1);
            are("until it is another's", row(both.swap(0, 2), both.plan(0, NONE), both.plan(1, NONE)), 1, NONE, 0);
        });
        sentence("The order by which it travels the fewest days; of like ones the first (the lesser PROMISE first)", () -> {
            are("all in one town", planAll(on("t1;k0 0;p0 0 9 9 1 9;p0 0 8 9 1 9;p0 0 7 9 1 9;"), 0), 0, 0, 1, 2, NONE);
            are("as it ripens", planAll(on("t1;k0 0;p0 0 9 0 1 9;p0 0 8 0 1 9;p0 0 7 0 1 9;"), 0), 0, 2, 1, 0, NONE);
            are("fewer days before lesser ones", planAll(on("t3;r0 1 1;r1 2 1;k0 0;p0 2 9 9 1 9;p0 1 1 9 1 9;p0 0 1 9 1 9;"), 0), 2, 2, 1, 0, NONE);
            are("like ones", planAll(on("t3;r0 1 1;r0 2 1;k0 0;p0 2 9 9 1 9;p0 1 9 9 1 9;p0 2 9 9 1 9;"), 0), 3, 0, 2, 1, NONE);
            RipePromises seven = on("t1;k0 0;" + "p0 0 9 9 1 9;".repeat(7));
            for (int i = 0; i < 7; i++) {
                is("all seven, place " + i, seven.plan(0, i), i);
            }
            is("no eighth", seven.plan(0, 7), NONE);
        });
        sentence("PLAN: i = NONE days of travel, else the i-th PROMISE; NONE. UNKNOWN, NOT: it is on the way.", () -> {
            RipePromises x = on(PLAIN);
            are("unknown", row(x.plan(-1, NONE), x.plan(2, NONE), x.plan(2, 0), x.plan(Integer.MAX_VALUE, 0)), UNKNOWN, UNKNOWN, UNKNOWN, UNKNOWN);
            are("places that there are not", row(x.plan(0, 2), x.plan(0, 7), x.plan(0, -2), x.plan(0, Integer.MIN_VALUE), x.plan(0, Integer.MAX_VALUE)), NONE, NONE, NONE, NONE, NONE);
            x.go(0, 1);
            are("on the way; the other is not", row(x.plan(0, NONE), x.plan(0, 0), x.plan(0, 9), x.plan(1, NONE)), NOT, NOT, NOT, 0);
            are("a day before it comes, and then", row(x.day(1), x.plan(0, NONE), x.day(1), x.plan(0, NONE)), 1, NOT, 2, 3);
            RipePromises none = on("t1;k0 0;k0 0;p1 0 1 0 1 9;");
            are("nothing to keep", row(none.plan(0, NONE), none.plan(0, 0), none.day(2), none.plan(1, NONE), none.plan(1, 0)), 0, NONE, 2, 0, NONE);
        });
    }

    private static void clash() {
        sentence("CLASH: the first two of its OPEN ones (lesser first) that it cannot both keep by such an order of these two alone", () -> {
            RipePromises x = on("t2;r0 1 5;k0 0;p0 0 9 9 1 9;p0 0 3 0 1 9;p0 1 9 9 1 9;p0 1 4 2 1 9;p0 0 4 0 1 9;");
            are("1 and 3, not 3 and 4", row(x.clash(0, 0), x.clash(0, 1)), 1, 3);
            x.day(3);
            x.keep(1);
            are("1 is open no more", row(x.clash(0, 0), x.clash(0, 1)), 0, 3);
            RipePromises three = on("t4;r0 1 3;r0 2 3;r0 3 3;r1 2 6;r2 3 6;r1 3 6;k0 0;p0 1 3 6 1 9;p0 2 3 6 1 9;p0 3 3 6 1 9;");
            are("any two, but not all three", row(three.clash(0, 0), three.clash(0, 1), three.plan(0, NONE)), NONE, NONE, NONE);
            RipePromises like = on("t2;r0 1 5;k0 0;p0 1 9 9 1 9;p0 0 3 0 1 9;p0 1 4 2 1 9;p0 1 4 2 1 9;");
            are("the lesser of the second, too", row(like.clash(0, 0), like.clash(0, 1)), 1, 2);
        });
        sentence("(with all that they are grafted on, if that is its own and OPEN)", () -> {
            RipePromises x = on("t2;r0 1 5;k0 0;k0 0;p0 1 5 0 1 9;p0 0 1 9 1 0;p0 0 7 0 1 9;p1 0 9 9 9 9;");
            are("0 itself clashes with 2", row(x.clash(0, 0), x.clash(0, 1)), 0, 2);
            RipePromises far = on("t2;r0 1 5;k0 0;k0 0;p0 0 1 9 1 9;p0 1 9 3 1 0;p0 1 1 9 1 1;p0 0 13 1 1 9;p1 0 9 9 3 9;");
            are("0 on 1, 1 from 10 to 13 five days off, 3 by 14", row(far.clash(0, 0), far.clash(0, 1)), 1, 3);
            RipePromises seven = on("t1;k0 0;p0 0 1 9 1 9;p0 0 1 9 1 0;p0 0 1 9 1 1;p0 0 1 9 1 2;p0 0 1 9 1 3;p0 0 1 9 1 4;p0 0 1 9 1 5;");
            are("a chain of seven", row(seven.clash(0, 0), seven.clash(0, 1), seven.plan(0, NONE)), NONE, NONE, 0);
            RipePromises others = on("t1;k0 0;k0 0;p1 0 1 9 1 9;p0 0 1 9 1 0;p0 0 1 9 1 9;");
            are("1 is never given: it clashes with any", row(others.clash(0, 0), others.clash(0, 1)), 1, 2);
            are("another's is open no more", row(others.day(1), others.keep(0), others.clash(0, 0)), 1, 1, NONE);
        });
        sentence("CLASH: what = 0, 1 which; NONE. UNKNOWN, OUTSIDE, NOT: it is on the way.", () -> {
            RipePromises x = on("t2;r0 1 3;k0 0;k0 0;k0 0;p0 1 1 0 1 9;p1 1 1 0 1 9;p1 0 1 0 1 9;");
            are("none, one that it cannot keep, two", row(x.clash(2, 0), x.clash(0, 0), x.clash(0, 1), x.clash(1, 0), x.clash(1, 1)), NONE, NONE, NONE, 1, 2);
            are("unknown", row(x.clash(-1, 0), x.clash(3, 0), x.clash(3, 2)), UNKNOWN, UNKNOWN, UNKNOWN);
            are("outside", row(x.clash(0, -1), x.clash(0, 2), x.clash(1, Integer.MAX_VALUE)), OUTSIDE, OUTSIDE, OUTSIDE);
            x.go(1, 1);
            are("on the way", row(x.clash(1, 0), x.clash(1, 1), x.clash(1, 2), x.clash(1, -1), x.clash(0, 0)), NOT, NOT, OUTSIDE, OUTSIDE, NONE);
        });
    }

    private static void still() {
        sentence("STILL: which AGES (1 to 30, a SET of bits 1 to 30) one could promise today in a TOWN, SLACK s (0 .. 9), so that its PLAN is there with it (GIVEN today).", () -> {
            is("all: neither bit 0 nor bit 31", on("t1;k0 0;").still(0, 0, 0), AGES);
            RipePromises far = on("t5;r0 1 9;r1 2 9;r2 3 9;k0 0;");
            are("27 days off: from age 27 on, with slack earlier", row(far.still(0, 3, 0), far.still(0, 3, 1), far.still(0, 3, 9)), 15 << 27, 31 << 26, AGES >> 18 << 18);
            is("no way", far.still(0, 4, 9), 0);
            RipePromises last = on("t5;r0 1 9;r1 2 9;r2 3 9;r3 4 9;k0 0;");
            are("36 days off: age 30 alone, none", row(last.still(0, 4, 6), last.still(0, 4, 7), last.still(0, 4, 5)), 1 << 30, 3 << 29, 0);
            RipePromises none = on("t2;r0 1 9;k0 0;p0 1 1 0 1 9;");
            are("no plan is there without it", row(none.still(0, 0, 9), none.plan(0, NONE)), 0, NONE);
            RipePromises seven = on("t2;r0 1 2;k0 0;" + "p0 0 9 0 1 9;".repeat(7));
            is("an eighth beside seven on day 9: back by then, or behind it", seven.still(0, 1, 0), AGES & ~(1 << 1 | 7 << 8));
            RipePromises today = on("t2;r0 1 3;k0 0;w4 3 7;");
            today.day(2);
            is("given on day 2; winter 4 to 6: by day 5", today.still(0, 1, 0), AGES & ~6);
            is("given on day 2: age 1 is 3, 2 is 4, 3 is 8", today.still(0, 1, 1), AGES & ~2);
        });
        sentence("STILL. UNKNOWN, OUTSIDE, NOT: it is on the way.", () -> {
            RipePromises x = on("t2;r0 1 3;k0 0;k0 0;");
            are("unknown", row(x.still(-1, 0, 0), x.still(2, 0, 0), x.still(0, -1, 0), x.still(0, 2, 0), x.still(2, 2, 10)), UNKNOWN, UNKNOWN, UNKNOWN, UNKNOWN, UNKNOWN);
            are("outside", row(x.still(0, 0, -1), x.still(0, 0, 10), x.still(0, 0, Integer.MAX_VALUE), x.still(0, 0, 9)), OUTSIDE, OUTSIDE, OUTSIDE, AGES);
            x.go(0, 1);
            are("on the way", row(x.still(0, 0, 0), x.still(0, 0, 10), x.still(0, 2, 0), x.still(1, 0, 0)), NOT, OUTSIDE, UNKNOWN, AGES);
        });
    }

    private static void hands() {
        sentence("HANDS: of OPEN ones the fewest that must get another KEEPER (who could get any) so that all KEEPERS have a PLAN", () -> {
            RipePromises none = on("t2;k0 0;k1 0;");
            is("none to give", none.hands(NONE), 0);
            is("no keepers", on("t1;").hands(NONE), 0);
            RipePromises one = on("t2;k0 0;k1 0;p0 1 9 0 1 9;");
            are("the other has to", row(one.hands(NONE), one.hands(0)), 1, 1);
            RipePromises all = on("t2;k0 0;k1 0;" + "p0 1 9 0 1 9;".repeat(7));
            are("all seven", row(all.hands(NONE), all.hands(0), all.hands(6)), 7, 1, 1);
            RipePromises nobody = on("t2;k0 0;k0 0;p0 1 9 0 1 9;p0 0 9 0 1 9;");
            are("nobody could", row(nobody.hands(NONE), nobody.hands(0), nobody.hands(1)), NONE, NONE, NONE);
        });
        sentence("of like ones the first (PROMISE by PROMISE the lesser KEEPER)", () -> {
            RipePromises x = on("t2;r0 1 9;k0 0;k0 0;k1 0;p2 0 3 0 2 9;p2 1 3 0 2 9;p1 0 3 0 2 9;");
            are("0 to keeper 0, not 1", row(x.hands(NONE), x.hands(0), x.hands(1), x.hands(2)), 1, 0, 2, 1);
            RipePromises either = on("t2;r0 1 9;k0 0;k1 0;k1 0;p0 0 3 0 2 9;p0 1 3 0 2 9;p0 1 3 0 2 9;");
            are("1 and 2 to keeper 1, not 2", row(either.hands(NONE), either.hands(0), either.hands(1), either.hands(2)), 2, 0, 1, 1);
            RipePromises chain = on("t1;k0 0;k0 0;p0 0 3 9 2 9;p1 0 3 9 2 0;");
            are("either could change: 0 stays, as 0 is the lesser keeper", row(chain.hands(NONE), chain.hands(0), chain.hands(1)), 1, 0, 0);
            RipePromises back = on("t1;k0 0;k0 0;p1 0 3 9 2 9;p0 0 3 9 2 0;");
            are("either could change: 0 goes to keeper 0", row(back.hands(NONE), back.hands(0), back.hands(1)), 1, 0, 0);
        });
        sentence("HANDS: p = NONE how many, else the KEEPER of a PROMISE (of one not OPEN its own); NONE. UNKNOWN, NOT: somebody is on the way.", () -> {
            RipePromises x = on("t2;r0 1 2;k0 0;k1 0;k1 0;p1 1 1 9 2 9;p0 1 9 9 2 9;p2 1 9 9 2 9;p2 1 1 0 2 9;");
            are("unknown", row(x.hands(-2), x.hands(4), x.hands(Integer.MIN_VALUE), x.hands(Integer.MAX_VALUE)), UNKNOWN, UNKNOWN, UNKNOWN, UNKNOWN);
            x.day(2);
            x.keep(0);
            x.takeDown(2);
            are("kept, open, taken down, fallen: their own", row(x.hands(NONE), x.hands(0), x.hands(1), x.hands(2), x.hands(3)), 0, 1, 0, 2, 2);
            x.go(2, 0);
            are("the last keeper is on the way, who has none to keep", row(x.hands(NONE), x.hands(0), x.hands(1), x.hands(4), x.hands(-2)), NOT, NOT, NOT, UNKNOWN, UNKNOWN);
            are("and there", row(x.day(1), x.hands(NONE), x.day(1), x.hands(NONE)), 3, NOT, 4, 0);
            x.go(0, 1);
            is("the first is", x.hands(NONE), NOT);
        });
    }

    private static void calendar() {
        sentence("CALENDAR of a KEEPER: on how many of its OPEN, GIVEN ones a day (0 .. 9999) is one on which it may be KEPT.", () -> {
            RipePromises x = on("t2;k0 0;k0 0;p0 1 3 2 1 9;p0 1 5 0 1 9;p1 1 5 0 1 9;p0 1 1 9 1 0;");
            are("days 2 to 6", row(x.calendar(0, 2), x.calendar(0, 3), x.calendar(0, 4), x.calendar(0, 5), x.calendar(0, 6)), 0, 1, 1, 2, 0);
            are("the other's", row(x.calendar(1, 4), x.calendar(1, 5), x.calendar(1, 6)), 0, 1, 0);
            x.takeDown(0);
            are("open ones", row(x.calendar(0, 3), x.calendar(0, 5)), 0, 1);
        });
        sentence("CALENDAR. UNKNOWN, OUTSIDE.", () -> {
            RipePromises x = on("t1;k0 0;p0 0 60 9 1 9;p0 0 41 9 1 0;w0 98 99;");
            are("unknown", row(x.calendar(-1, 0), x.calendar(1, 0), x.calendar(1, -1), x.calendar(1, 10000)), UNKNOWN, UNKNOWN, UNKNOWN, UNKNOWN);
            are("outside", row(x.calendar(0, -1), x.calendar(0, 10000), x.calendar(0, Integer.MIN_VALUE), x.calendar(0, Integer.MAX_VALUE)), OUTSIDE, OUTSIDE, OUTSIDE, OUTSIDE);
            are("the first and the last day", row(x.calendar(0, 0), x.calendar(0, 9999), x.calendar(0, 5940)), 0, 0, 1);
            daysTo(x, 5940);
            are("given on day 5940, ripe on 9999", row(x.keep(0), x.promise(1, 7), x.calendar(0, 9998), x.calendar(0, 9999), x.calendar(0, 10000)), 1, 9999, 0, 1, OUTSIDE);
        });
    }

    private static void busiest() {
        sentence("BUSIEST: the first of the 200 days from today on with the most, of all KEEPERS together.", () -> {
            RipePromises x = on("t1;k0 0;k0 0;k0 0;p0 0 3 5 1 9;p1 0 5 1 1 9;p2 0 6 0 1 9;p2 0 60 9 1 9;");
            are("3, 4: one; 5: two; 6: three", row(x.busiest(0), x.busiest(1)), 6, 3);
            RipePromises like = on("t1;k0 0;k0 0;p0 0 3 1 1 9;p1 0 9 1 1 9;");
            are("the first of like ones", row(like.busiest(0), like.busiest(1)), 3, 1);
            are("of days from today on: one that has begun", row(like.day(4), like.busiest(0), like.busiest(1)), 4, 4, 1);
            are("none in sight: today", row(like.day(7), like.busiest(0), like.busiest(1)), 11, 11, 0);
            RipePromises edge = on("t1;k0 0;p0 0 20 0 1 9;w0 9 10;");
            are("day 200 from day 0, then from day 1", row(edge.busiest(0), edge.busiest(1), edge.day(1), edge.busiest(0), edge.busiest(1)), 0, 0, 1, 200, 1);
            are("of today alone", row(on("t1;").busiest(0), on("t1;").busiest(1)), 0, 0);
        });
        sentence("BUSIEST: what = 0 the day, 1 how many. OUTSIDE, NOT: no TOWNS.", () -> {
            RipePromises x = on("t1;");
            are("outside", row(x.busiest(-1), x.busiest(2), x.busiest(Integer.MIN_VALUE)), OUTSIDE, OUTSIDE, OUTSIDE);
            RipePromises none = new RipePromises();
            are("no towns; outside comes first", row(none.busiest(0), none.busiest(1), none.busiest(-1), none.busiest(2)), NOT, NOT, OUTSIDE, OUTSIDE);
        });
    }

    private static void lives() {
        sentence("BILLION at first, times (1000 less q) / 1000 each day, cut. (0 days, if it is RIPE.)", () -> {
            RipePromises x = on("t1;k0 0;p0 0 1 9 1 9;p0 0 2 9 1 9;p0 0 5 9 1 9;");
            are("1, 2, 5 days by 1", row(x.lives(0, 1), x.lives(1, 1), x.lives(2, 1)), 999000000, 998001000, 995009990);
            are("never, always, by 999", row(x.lives(2, 0), x.lives(2, 1000), x.lives(2, 999), x.lives(1, 999)), 1000000000, 0, 0, 1000);
            x.day(1);
            are("ripe today", row(x.lives(0, 1000), x.lives(0, 0), x.lives(1, 1000), x.lives(1, 1)), 1000000000, 1000000000, 0, 999000000);
            x.day(1);
            are("ripe for a day", row(x.lives(0, 1000), x.lives(1, 1000)), 1000000000, 1000000000);
            RipePromises winter = on("t1;k0 0;p0 0 2 9 1 9;w1 3 5;");
            are("days of winter, too: 5", row(winter.promise(0, 7), winter.lives(0, 1)), 5, 995009990);
        });
        sentence("LIVES (q 0 .. 1000); NONE: not OPEN, not GIVEN. UNKNOWN, OUTSIDE.", () -> {
            RipePromises x = on("t1;k0 0;p0 0 1 5 1 9;p0 0 1 0 1 9;p0 0 9 0 1 9;p0 0 9 0 1 0;");
            are("unknown", row(x.lives(-1, 0), x.lives(4, 0), x.lives(4, 1001), x.lives(-1, -1)), UNKNOWN, UNKNOWN, UNKNOWN, UNKNOWN);
            are("outside", row(x.lives(0, -1), x.lives(0, 1001), x.lives(3, -1), x.lives(3, 1001)), OUTSIDE, OUTSIDE, OUTSIDE, OUTSIDE);
            is("not given", x.lives(3, 0), NONE);
            x.takeDown(2);
            x.day(2);
            x.keep(0);
            are("kept, fallen, taken down", row(x.lives(0, 0), x.lives(1, 0), x.lives(2, 0), x.lives(2, 1001)), NONE, NONE, NONE, OUTSIDE);
            is("given", x.lives(3, 0), 1000000000);
        });
    }

    private static void share() {
        sentence("by SIZES of all PROMISES that each has (OPEN or not), cut; what is left goes one by one to those with the greatest rest (of like ones the least)", () -> {
            RipePromises x = on("t1;k0 0;k0 0;k0 0;p0 0 1 0 7 9;p1 0 9 0 2 9;p2 0 9 0 3 9;");
            x.day(2);
            are("7 by 7, 2, 3 of 12: 49, 14, 21: 4 (1), 1 (2), 1 (9)", row(x.share(0), x.share(1), x.share(2)), 4, 1, 2);
            RipePromises two = on("t1;k0 0;k0 0;k0 0;p0 0 1 0 8 9;p1 0 9 0 8 9;p2 0 9 0 8 9;");
            two.day(2);
            are("8 by thirds: two are left, to the least two", row(two.share(0), two.share(1), two.share(2)), 3, 3, 2);
            RipePromises even = on("t1;k0 0;k0 0;p0 0 1 0 8 9;p1 0 9 0 8 9;");
            even.day(2);
            are("nothing is left", row(even.share(0), even.share(1)), 4, 4);
            RipePromises alone = on("t1;k0 0;k0 1;p0 0 1 0 9 9;p1 0 9 0 9 9;");
            alone.day(2);
            are("a family of one; another family", row(alone.share(0), alone.share(1)), 9, 0);
            RipePromises none = on("t1;k0 0;k0 0;k0 0;p1 0 1 0 5 9;");
            none.day(2);
            are("who has none has no share", row(none.share(0), none.share(1), none.share(2)), 0, 5, 0);
            RipePromises one = on("t1;k0 0;k0 0;p1 0 1 0 1 9;");
            one.day(2);
            are("1 of size 1, to who has it, not to the least", row(one.share(0), one.share(1)), 0, 1);
            RipePromises other = on("t1;k0 0;k0 0;k0 1;p1 0 1 0 2 9;p1 0 9 0 2 9;p0 0 9 0 1 9;p2 0 9 0 5 9;");
            other.day(2);
            are("2 by 1 and 4 of 5: 2 (2), 8 (3); the other family has its own", row(other.share(0), other.share(1), other.share(2)), 0, 2, 0);
            RipePromises whole = on("t1;k0 0;k0 0;" + "p0 0 1 0 9 9;".repeat(6) + "p1 0 1 0 9 9;");
            whole.day(2);
            are("63 by 54 and 9", row(whole.fell(0), whole.share(0), whole.share(1)), 63, 54, 9);
        });
        sentence("all to the least KEEPER, if none has any", () -> {
            RipePromises x = on("t1;k0 0;k0 1;k0 1;p0 0 9 9 5 9;");
            are("nothing fell on those", row(x.share(1), x.share(2), x.fell(1)), 0, 0, 0);
        });
        sentence("SHARES: of a KEEPER. UNKNOWN.", () -> {
            RipePromises x = on("t1;k0 0;k0 2;");
            are("unknown", row(x.share(-1), x.share(2), x.share(Integer.MAX_VALUE), x.share(Integer.MIN_VALUE), x.share(1)), UNKNOWN, UNKNOWN, UNKNOWN, UNKNOWN, 0);
        });
    }

    private static void let() {
        sentence("LET FALL: SETS of PROMISES (of all that there are) of one KEEPER whose SIZES are v together (0 .. 99): how many; the least; SURE: those in all of them (0 without any).", () -> {
            RipePromises nines = on("t1;k0 0;" + "p0 0 1 0 9 9;".repeat(7));
            are("63: all", row(nines.let(0, 63, 0), nines.let(0, 63, 1), nines.let(0, 63, 2)), 1, 127, 127);
            are("54: one is not", row(nines.let(0, 54, 0), nines.let(0, 54, 1), nines.let(0, 54, 2)), 7, 63, 0);
            are("64, 99: none", row(nines.let(0, 64, 0), nines.let(0, 64, 1), nines.let(0, 64, 2), nines.let(0, 99, 0), nines.let(0, 99, 1), nines.let(0, 99, 2)), 0, NONE, 0, 0, NONE, 0);
            are("0: the empty one", row(nines.let(0, 0, 0), nines.let(0, 0, 1), nines.let(0, 0, 2)), 1, 0, 0);
            nines.day(2);
            are("all that there are, fallen ones, too", row(nines.told(8), nines.let(0, 27, 0), nines.let(0, 27, 1)), 127, 35, 7);
            RipePromises x = on("t1;k0 0;k0 0;p0 0 1 9 4 9;p1 0 1 9 1 9;p0 0 9 9 1 9;p0 0 9 9 1 9;p0 0 9 9 7 9;");
            are("5: 4 and one of the ones", row(x.let(0, 5, 0), x.let(0, 5, 1), x.let(0, 5, 2)), 2, 5, 1);
            are("of another keeper", row(x.let(1, 1, 0), x.let(1, 1, 1), x.let(1, 1, 2), x.let(1, 4, 0)), 1, 2, 2, 0);
            x.day(1);
            x.keep(0);
            x.takeDown(2);
            are("kept ones, ones taken down, too", row(x.let(0, 5, 0), x.let(0, 5, 1), x.let(0, 5, 2)), 2, 5, 1);
        });
        sentence("LET FALL: what = 0 how many, 1 the least (NONE), 2 SURE. UNKNOWN, OUTSIDE.", () -> {
            RipePromises x = on("t1;k0 0;k0 0;p0 0 1 9 4 9;");
            are("unknown", row(x.let(-1, 0, 0), x.let(2, 0, 0), x.let(2, 100, 0), x.let(2, 0, 3)), UNKNOWN, UNKNOWN, UNKNOWN, UNKNOWN);
            are("outside", row(x.let(0, -1, 0), x.let(0, 100, 0), x.let(0, 0, -1), x.let(0, 0, 3)), OUTSIDE, OUTSIDE, OUTSIDE, OUTSIDE);
            are("who has none", row(x.let(1, 0, 0), x.let(1, 0, 1), x.let(1, 0, 2), x.let(1, 4, 0), x.let(1, 4, 1), x.let(1, 4, 2)), 1, 0, 0, 0, NONE, 0);
        });
    }

    public static void main(String[] args) {
        plan();
        clash();
        still();
        hands();
        calendar();
        busiest();
        lives();
        share();
        let();
        end("TriedEdges");
    }
}
