/** For each promise of the document: ordinary inputs, the edges that it names, wrong inputs. The answers are worked out by hand. */
public final class PromiseTests extends Check {
    private static void p01NewObject() {
        RipePromises x = new RipePromises();
        are("told", toldAll(x), 0, 0, 0, 0, 0, 0, 0, 0, 0, 0, 0, 0, 0);
        are("the constants", row(NONE, UNKNOWN, OUTSIDE, NOT, FULL), -1, -1000000001, -1000000002, -1000000003, -1000000004);
        are("nothing is there", row(x.far(0, 0), x.keeper(0, 0), x.promise(0, 0), x.plan(0, -1), x.share(0)), UNKNOWN, UNKNOWN, UNKNOWN, UNKNOWN, UNKNOWN);
        are("no towns", row(x.day(1), x.drift(1), x.busiest(0), x.undo(1), x.goBack(0), x.goBack(1)), NOT, NOT, NOT, NOT, NOT, NOT);
        are("empty answers", row(x.fault(), x.judge(), x.tear(), x.hands(NONE), x.fell(0), x.seed(5), x.land()), NONE, NONE, 0, 0, 0, 0, 0);
    }

    private static void p02Feed() {
        RipePromises x = new RipePromises();
        are("bounds", row(x.feed(-1), x.feed(256), x.feed(0), x.feed(255), x.feed('t')), OUTSIDE, OUTSIDE, 1, 2, 3);
        x.land();
        for (int i = 1; i < 250; i++) {
            x.feed(' ');
        }
        are("full", row(x.feed(' '), x.feed(' '), x.told(4), x.feed(256), x.land(), x.feed(' ')), 250, FULL, 250, OUTSIDE, 0, 1);
    }

    private static void p03Land() {
        are("towns", row(tell(new RipePromises(), "t1;"), tell(new RipePromises(), " t 005 ;  "), tell(new RipePromises(), "   ")), 1, 5, 0);
        RipePromises x = on(PLAIN);
        x.seed(77);
        x.go(0, 1);
        x.day(4);
        x.write(0, 5);
        x.image(0);
        x.day(1);
        int[] before = toldAll(x);
        are("a fault", row(tell(x, "t9;"), x.told(4), x.fault()), -12, 0, 1);
        are("all else is as it was", toldAll(x), before);
        are("also", row(x.fell(1), x.keeper(0, 0), x.goBack(0), x.told(10), x.day(1), x.told(11)), 4, 1, 1, 1, 5, 1);
        are("anew", row(tell(x, PLAIN), x.fault(), x.fell(1), x.keeper(0, 0), x.keeper(0, 2), x.goBack(0), x.undo(1)), 4, NONE, 0, 0, 0, NOT, NOT);
        are("told anew", toldAll(x), 4, 3, 2, 3, 0, 0, 7, 0, 0, 0, 0, 0, 0);
        is("the seed stays", x.seed(0), 77);
        x.image(1);
        are("no towns", row(x.land(), x.told(0), x.told(3), x.told(6), x.far(0, 0), x.goBack(1), x.day(1)), 0, 0, 0, 0, UNKNOWN, NOT, NOT);
    }

    private static void p04Fault() {
        faulty("r0 1 1;", 1, 0);
        faulty("  x", 1, 2);
        faulty("5;", 1, 0);
        faulty("T2;", 1, 0);
        faulty("t", 1, 1);
        faulty("t2", 1, 2);
        faulty("t2 ", 1, 3);
        faulty("t;", 1, 1);
        faulty("t2 3;", 1, 3);
        faulty("t2x;", 1, 2);
        faulty("t2;;", 1, 3);
        faulty("t2;q", 1, 3);
        faulty("t2;\u00ff", 1, 3);
        faulty("t2;r0 1;", 1, 7);
        faulty("t2;r00 1;", 1, 8);
        faulty("t2;r0 1 1 1;", 1, 10);
        faulty("t2;k0 0", 1, 7);
        faulty("t0;", 2, 1);
        faulty("t6;", 2, 1);
        faulty("t6", 2, 1);
        faulty("t0002;", 2, 1);
        faulty("t2;k0 0000", 2, 6);
        faulty("t1234567890123456789012345678901234567890;", 2, 1);
        faulty("t2;r2 1 1;", 2, 4);
        faulty("t2;r0 2 1;", 2, 6);
        faulty("t2;r0 1 0;", 2, 8);
        faulty("t2;r0 1 10;", 2, 8);
        faulty("t2;k2 0;", 2, 4);
        faulty("t2;k0 3;", 2, 6);
        faulty("t2;p0 0 1 0 1 9;", 2, 4);
        faulty("t2;k0 0;p1 0 1 0 1 9;", 2, 9);
        faulty("t2;k0 0;p0 2 1 0 1 9;", 2, 11);
        faulty("t2;k0 0;p0 0 0 0 1 9;", 2, 13);
        faulty("t2;k0 0;p0 0 61 0 1 9;", 2, 13);
        faulty("t2;k0 0;p0 0 60 10 1 9;", 2, 16);
        faulty("t2;k0 0;p0 0 1 0 0 9;", 2, 17);
        faulty("t2;k0 0;p0 0 1 0 10 9;", 2, 17);
        faulty("t2;k0 0;p0 0 1 0 1 0;", 2, 19);
        faulty("t2;k0 0;p0 0 1 0 1 8;", 2, 19);
        faulty("t2;k0 0;p0 0 1 0 1 10;", 2, 19);
        faulty("t2;k0 0;p0 0 1 0 1 9;p0 0 1 0 1 1;", 2, 32);
        faulty("t2;w99 1 2;", 2, 4);
        faulty("t2;w0 99 99;", 2, 6);
        faulty("t2;w0 0 1;", 2, 8);
        faulty("t2;w0 0 100;", 2, 8);
        faulty("t2;w0 5 1;", 2, 8);
        faulty("t2;t2;", 3, 3);
        faulty("t2;w0 0 2;w0 0 2;", 3, 10);
        faulty("t2;" + "r0 1 1;".repeat(8) + "r", 3, 59);
        faulty("t2;" + "k0 0;".repeat(3) + "k", 3, 18);
        faulty("t2;k0 0;" + "p0 0 1 0 1 9;".repeat(7) + "p", 3, 99);
        faulty("t2;r0 0 1;", 4, 6);
        faulty("t2;r1  01 1;", 4, 7);
        faulty("t2;w0 2 2;", 4, 8);
        faulty("t2;w0 98 97;", 4, 9);
        sound("t2;w98 98 99;", 2);
        sound("t 2 ; r 0 1 9 ; k 1 2 ; p 0 1 60 9 9 9 ; p 0 0 1 0 1 0 ; w 0 1 2 ;", 2);
        sound("t2;" + "r0 1 1;".repeat(8) + "k0 0;".repeat(3) + "p2 0 1 0 1 9;".repeat(7), 2);
        RipePromises x = new RipePromises();
        tell(x, "t2;q");
        are("of the latest land", row(x.fault(), x.feed('t'), x.fault(), x.land(), x.fault(), x.land(), x.fault()), 3, 1, 3, -11, 1, 0, NONE);
    }

    private static void p05Told() {
        RipePromises x = on(PLAIN + "w3 1 10;");
        are("at first", toldAll(x), 4, 3, 2, 3, 0, 0, 7, 0, 0, 0, 0, 0, 0);
        are("outside", row(x.told(-1), x.told(13)), OUTSIDE, OUTSIDE);
        x.day(3);
        are("winter", row(x.told(12), x.keep(1), x.told(6), x.told(7)), 1, 4, 5, 2);
        x.day(1);
        is("no winter", x.told(12), 0);
        x.takeDown(2);
        x.day(5);
        x.feed('t');
        x.write(0, 5);
        x.write(0, 5);
        are("in the end", toldAll(x), 4, 3, 2, 3, 1, 9, 0, 2, 1, 4, 2, 9, 0);
        RipePromises w = on("t1;w5 3 7;");
        int winters = 0;
        for (int i = 0; i < 14; i++) {
            winters |= w.told(12) << i;
            w.day(1);
        }
        is("winters go round the end: days 0, 5, 6, 7, 12, 13", winters, 1 | 7 << 5 | 3 << 12);
        RipePromises late = on("t1;w98 1 2;");
        are("F beyond N", row(late.told(12), late.day(1), late.told(12)), 1, 1, 0);
    }

    private static void p06Far() {
        RipePromises x = on(PLAIN);
        are("far", row(x.far(0, 1), x.far(1, 0), x.far(0, 2), x.far(2, 0), x.far(2, 1), x.far(2, 2), x.far(3, 3)), 2, 2, 5, 5, 3, 0, 0);
        are("no way", row(x.far(0, 3), x.far(3, 2)), NONE, NONE);
        are("unknown", row(x.far(-1, 0), x.far(0, 4), x.far(4, 0), x.far(0, -1)), UNKNOWN, UNKNOWN, UNKNOWN, UNKNOWN);
        RipePromises y = on("t5;r3 4 9;r3 4 1;r3 4 5;r0 1 1;r1 2 1;r2 3 1;r0 4 9;");
        are("the shorter of two roads, long chains", row(y.far(4, 3), y.far(0, 4), y.far(4, 0), y.far(1, 4)), 1, 4, 4, 3);
    }

    private static void p07Keeper() {
        RipePromises x = on(PLAIN);
        are("0", keeperAll(x, 0), 0, 0, 0, 5);
        are("1", keeperAll(x, 1), 2, 1, 0, 2);
        are("wrong", row(x.keeper(2, 0), x.keeper(-1, 0), x.keeper(2, 4), x.keeper(0, 4), x.keeper(0, -1)), UNKNOWN, UNKNOWN, UNKNOWN, OUTSIDE, OUTSIDE);
        x.day(1);
        x.go(0, 2);
        are("on the way", keeperAll(x, 0), 2, 0, 6, 5);
        x.day(9);
        x.swap(0, 2);
        are("there since", keeperAll(x, 0), 2, 0, 6, 5);
    }

    private static void p08Promise() {
        RipePromises x = on(PLAIN);
        are("0", promiseAll(x, 0), 0, 1, 5, 2, 5, NONE, 0, 5, NONE);
        are("1", promiseAll(x, 1), 1, 2, 3, 0, 4, NONE, 0, 3, NONE);
        are("2", promiseAll(x, 2), 0, 2, 4, 3, 5, 0, 0, NONE, NONE);
        are("wrong", row(x.promise(3, 0), x.promise(-1, 0), x.promise(3, 9), x.promise(0, 9), x.promise(0, -1)), UNKNOWN, UNKNOWN, UNKNOWN, OUTSIDE, OUTSIDE);
        x.go(0, 1);
        x.day(6);
        are("fell on its last day", row(x.promise(1, 6), x.promise(1, 8), x.promise(1, 7)), 2, 3, 3);
        are("kept", row(x.keep(0), x.promise(0, 6), x.promise(0, 8), x.promise(0, 7), x.promise(2, 7)), 5, 1, 6, 5, 10);
        x.day(1);
        are("taken down", row(x.takeDown(2), x.promise(2, 6), x.promise(2, 8), x.promise(2, 7)), 2, 3, 7, 10);
        RipePromises w = on("t1;k0 0;p0 0 1 0 1 9;p0 0 2 0 1 9;p0 0 3 0 1 9;p0 0 60 9 1 9;w2 2 7;");
        are("winters 2, 3, 9, 10 ..: the day behind may be one", row(w.promise(0, 7), w.promise(1, 7), w.promise(2, 7)), 1, 2, 5);
        is("60 days: 12 rounds of 5", w.promise(3, 7), 84);
        RipePromises hard = on("t1;k0 0;p0 0 60 9 1 9;p0 0 1 9 1 9;w0 98 99;");
        are("one day of 99 is none of winter", row(hard.promise(0, 7), hard.promise(1, 7)), 60 * 99, 99);
        RipePromises inWinter = on("t1;k0 0;p0 0 1 9 1 9;p0 0 1 0 1 0;w2 2 7;");
        inWinter.day(2);
        are("given in winter", row(inWinter.keep(0), inWinter.promise(1, 7)), 1, 5);
    }

    private static void p09Fell() {
        RipePromises x = on(PLAIN + "k0 1;p2 3 1 0 7 9;");
        are("at first", row(x.fell(0), x.fell(1), x.fell(2), x.fell(3), x.fell(-1)), 0, 0, 0, UNKNOWN, UNKNOWN);
        x.day(1);
        is("not before the end of the day", x.fell(1), 0);
        x.day(1);
        is("on the family of its keeper", x.fell(1), 7);
        x.day(6);
        are("0 with its graft, 1", row(x.fell(0), x.fell(1), x.fell(2)), 5, 11, 0);
        RipePromises y = on("t1;k0 0;k0 2;p0 0 2 0 3 9;p1 0 9 0 3 9;");
        y.swap(0, 1);
        y.day(3);
        are("on the family of the keeper that has it now", row(y.fell(0), y.fell(2)), 0, 3);
    }

    private static void p10Go() {
        RipePromises x = on(PLAIN);
        are("wrong", row(x.go(2, 0), x.go(-1, 0), x.go(0, 4), x.go(0, -1), x.go(0, 0), x.go(0, 3)), UNKNOWN, UNKNOWN, UNKNOWN, UNKNOWN, NOT, NOT);
        are("goes", row(x.go(0, 2), x.go(0, 1), x.go(0, 2), x.keeper(0, 0)), 5, NOT, NOT, 2);
        x.day(4);
        is("still on the way", x.go(0, 1), NOT);
        x.day(1);
        are("there", row(x.go(0, 2), x.go(0, 1), x.keeper(0, 2)), NOT, 8, 8);
    }

    private static void p11Day() {
        RipePromises x = on(PLAIN);
        are("wrong", row(x.day(0), x.day(100), x.day(-1), new RipePromises().day(0), new RipePromises().day(1)), OUTSIDE, OUTSIDE, OUTSIDE, OUTSIDE, NOT);
        are("days", row(x.day(1), x.day(2), x.told(8), x.day(1), x.told(8), x.day(3), x.told(8), x.day(1)), 1, 3, 0, 4, 2, 7, 2, 8);
        are("what is grafted is taken down with it", row(x.told(8), x.told(9), x.promise(2, 8), x.promise(0, 8)), 3, 4, 7, 7);
        for (int i = 0; i < 90; i++) {
            x.day(99);
        }
        are("8918", row(x.told(5), x.day(82), x.day(99), x.day(1), x.drift(1), x.day(0), x.told(5)), 8918, 9000, 9099, FULL, FULL, OUTSIDE, 9099);
        RipePromises edge = on("t1;");
        for (int i = 0; i < 100; i++) {
            edge.day(90);
        }
        are("9000 is not above it, 9001 is", row(edge.told(5), edge.drift(1), edge.day(1), edge.drift(1), edge.undo(1), edge.day(1), edge.day(1)), 9000, 9001, FULL, FULL, 9000, 9001, FULL);
        RipePromises y = on("t1;k0 0;p0 0 1 9 9 9;p0 0 1 9 8 0;p0 0 1 9 7 1;");
        y.day(11);
        are("a chain falls with its first", row(y.told(8), y.told(9), y.fell(0)), 1, 6, 9);
    }

    private static void p12Keep() {
        RipePromises x = on(PLAIN);
        are("wrong", row(x.keep(3), x.keep(-1), x.keep(0), x.keep(1), x.keep(2)), UNKNOWN, UNKNOWN, NOT, NOT, NOT);
        x.day(3);
        is("its keeper is elsewhere", x.go(0, 1), 5);
        are("kept once", row(x.keep(1), x.keep(1)), 4, NOT);
        x.day(1);
        is("neither there nor ripe", x.keep(0), NOT);
        x.day(1);
        are("on the first day", row(x.keep(0), x.promise(0, 8), x.go(0, 2)), 5, 5, 8);
        x.day(4);
        are("the grafted one", row(x.keep(2), x.told(7), x.fell(0)), 5, 7, 0);
        RipePromises y = on("t2;r0 1 3;k0 0;p0 1 1 5 5 9;p0 0 1 2 2 9;");
        are("on the way is not there", row(y.go(0, 1), y.day(2), y.keep(0), y.day(1), y.keep(1), y.keep(0)), 3, 2, NOT, 3, NOT, 5);
        RipePromises z = on("t1;k0 0;p0 0 1 2 2 9;");
        are("on the last day", row(z.day(3), z.keep(0), z.day(1), z.told(8)), 3, 2, 4, 0);
    }

    private static void p13TakeDown() {
        RipePromises x = on(PLAIN);
        are("wrong", row(x.takeDown(3), x.takeDown(-1)), UNKNOWN, UNKNOWN);
        x.day(2);
        are("half, cut; with those grafted on it, which add nothing", row(x.takeDown(0), x.fell(0), x.told(9), x.promise(2, 8), x.takeDown(2)), 2, 2, 5, 2, NOT);
        x.day(1);
        are("ripe already", row(x.takeDown(1), x.told(6)), NOT, 2);
        RipePromises y = on(PLAIN);
        are("not given", row(y.takeDown(2), y.fell(0), y.told(9), y.told(6)), 2, 2, 4, 3);
        RipePromises z = on("t1;k0 0;k0 1;p0 0 9 0 1 9;p1 0 9 0 9 0;p0 0 9 0 9 1;p0 0 9 0 9 9;");
        are("a chain over keepers; half of 1 is 0", row(z.takeDown(0), z.fell(0), z.fell(1), z.told(9), z.told(6)), 0, 0, 0, 7, 8);
    }

    private static void p14Swap() {
        RipePromises x = on(PLAIN);
        are("wrong", row(x.swap(0, 3), x.swap(3, 0), x.swap(-1, 0), x.swap(1, 1), x.swap(0, 1)), UNKNOWN, UNKNOWN, UNKNOWN, UNKNOWN, NOT);
        are("of one keeper", row(x.swap(0, 2), x.keeper(0, 3)), 1, 5);
        RipePromises y = on("t1;k0 0;k0 0;p0 0 2 9 4 9;p1 0 5 0 4 9;p1 0 5 0 3 9;");
        are("keepers change", row(y.swap(1, 0), y.promise(0, 0), y.promise(1, 0), y.keeper(0, 3), y.keeper(1, 3)), 1, 1, 0, 2, 5);
        y.takeDown(2);
        are("not open", row(y.swap(2, 0), y.day(2), y.keep(0), y.swap(0, 1), y.swap(1, 0), y.swap(0, 0)), NOT, 2, 4, NOT, NOT, UNKNOWN);
    }

    private static void p15Drift() {
        RipePromises x = on(PLAIN);
        are("wrong", row(x.drift(0), x.drift(100), new RipePromises().drift(1), new RipePromises().drift(100)), OUTSIDE, OUTSIDE, NOT, OUTSIDE);
        // seeds from 0: 12345, 1406932606, 654583775, 1449466924, 229283573, 1109335178, 1051550459, 1293799192: draws (/ 65536) 0, 21468, 9988, 22117, 3498, 16927, 16045, 19741
        RipePromises one = on("t3;r0 1 1;r1 2 1;k0 0;");
        are("0 of 6 is where it is", row(one.drift(1), one.keeper(0, 0), one.keeper(0, 2), one.seed(12345)), 1, 0, 0, 12345);
        are("21468 of 6 is 0, 9988 of 6 is 4: no town", row(one.drift(2), one.keeper(0, 0), one.seed(654583775)), 3, 0, 654583775);
        are("22117 of 6 is 1: it goes; there on the next day; 3498 of 6 is 0: back", row(one.drift(1), one.keeper(0, 0), one.keeper(0, 2), one.drift(1), one.keeper(0, 0), one.keeper(0, 2)), 4, 1, 4, 5, 0, 5);
        RipePromises two = on("t3;r0 1 9;k0 0;k0 0;p0 0 1 3 5 9;p0 0 1 3 6 9;p1 1 1 3 7 9;");
        two.go(0, 1);
        are("who is on the way has no draw", row(two.drift(1), two.seed(0)), 1, 12345);
        RipePromises ripe = on("t1;k0 0;k0 1;p0 0 1 3 5 9;p1 0 2 3 6 9;p0 0 1 3 7 0;");
        are("keeps all that it can", row(ripe.drift(1), ripe.told(7), ripe.drift(1), ripe.told(7), ripe.drift(1), ripe.told(7), ripe.promise(2, 8)), 1, 0, 2, 1, 3, 7, 2);
        RipePromises alone = on("t1;k0 0;p0 0 1 0 5 9;");
        are("on its one day", row(alone.drift(2), alone.told(7), alone.promise(0, 8)), 2, 1, 1);
        RipePromises apart = on("t2;k0 0;");
        apart.seed(1406932606);
        are("9988 of 4 is 0; 22117 of 4 is 1: no way there", row(apart.drift(2), apart.keeper(0, 0), apart.seed(0)), 2, 0, 1449466924);
    }

    private static void p16Undo() {
        RipePromises x = on(PLAIN);
        are("wrong", row(x.undo(0), x.undo(31), x.undo(1)), OUTSIDE, OUTSIDE, NOT);
        x.go(0, 1);
        x.day(3);
        x.keep(1);
        x.day(5);
        are("two days back: what was done before them stays", row(x.undo(2), x.told(5), x.told(11), x.told(7), x.told(8), x.fell(0)), 6, 6, 6, 2, 0, 0);
        are("all", row(x.undo(7), x.undo(6), x.told(7), x.told(11), x.keeper(0, 0), x.keeper(0, 2)), NOT, 0, 0, 0, 1, 2);
        RipePromises y = on("t1;k0 0;k0 0;p0 0 9 0 2 9;p1 0 9 0 2 9;");
        y.day(1);
        y.swap(0, 1);
        y.takeDown(0);
        are("swaps and what was taken down", row(y.undo(1), y.promise(0, 0), y.promise(0, 6), y.fell(0)), 0, 0, 0, 0);
        y.day(40);
        are("30 at most are kept", row(y.told(11), y.undo(30), y.told(11), y.undo(1), y.day(2), y.told(11), y.undo(1)), 30, 10, 0, NOT, 12, 2, 11);
        y.image(0);
        are("not over an image", row(y.told(11), y.undo(1), y.day(1), y.undo(1), y.day(1), y.goBack(0), y.undo(1)), 0, NOT, 12, 11, 12, 1, NOT);
        y.drift(2);
        int seed = y.seed(5);
        y.undo(2);
        are("the seed stays", row(seed == 0 ? 1 : 0, y.seed(0)), 0, 5);
    }

    private static void p17Plan() {
        RipePromises x = on(PLAIN);
        are("0: by town 1 to town 2", planAll(x, 0), 5, 0, 2, NONE, NONE);
        are("1: stays", planAll(x, 1), 0, 1, NONE, NONE, NONE);
        are("wrong", row(x.plan(2, 0), x.plan(-1, 0), x.plan(0, -2), x.plan(0, 99)), UNKNOWN, UNKNOWN, NONE, NONE);
        x.go(0, 1);
        is("on the way", x.plan(0, NONE), NOT);
        RipePromises none = on("t1;k0 0;");
        are("nothing to keep", row(none.plan(0, NONE), none.plan(0, 0)), 0, NONE);
        RipePromises alike = on("t3;r0 1 1;r0 2 1;k0 0;p0 1 9 9 1 9;p0 2 9 9 1 9;p0 1 9 9 1 9;");
        are("0, 2 in town 1: one way there; of like ones the first", planAll(alike, 0), 3, 0, 2, 1, NONE);
        RipePromises order = on("t2;r0 1 2;k0 0;p0 1 9 9 1 9;p0 0 5 2 1 9;");
        are("least travel, not least number", planAll(order, 0), 2, 1, 0, NONE, NONE);
        RipePromises late = on("t2;r0 1 3;k0 0;p0 1 5 0 1 9;p0 0 7 1 1 9;");
        are("5 and back on 8, the last day", planAll(late, 0), 6, 0, 1, NONE, NONE);
        RipePromises tooLate = on("t2;r0 1 3;k0 0;p0 1 5 0 1 9;p0 0 7 0 1 9;");
        are("a day less of slack", planAll(tooLate, 0), NONE, NONE, NONE, NONE, NONE);
        RipePromises others = on("t1;k0 0;k0 0;p0 0 1 9 1 9;p1 0 1 9 1 0;p1 0 1 9 1 1;");
        are("grafted on an open one of another", row(others.plan(1, NONE), others.plan(0, NONE), others.day(1), others.keep(0), others.plan(1, NONE), others.plan(1, 0)), NONE, 0, 1, 1, 0, 1);
        RipePromises waits = on("t2;r0 1 1;k0 0;p0 0 2 1 1 9;p0 1 1 2 1 0;p0 0 6 0 1 9;");
        are("given on the day on which the older is kept", planAll(waits, 0), 2, 0, 1, 2, NONE);
    }

    private static void p18Clash() {
        RipePromises x = on("t3;r0 1 2;r1 2 2;k0 0;k2 0;p0 0 2 9 1 9;p0 1 5 1 1 9;p0 2 5 2 1 9;p0 2 5 0 1 9;p1 2 5 0 1 9;");
        are("0 with all; 1 and 2 by turns; 1 and 3 (5, then 7: late)", row(x.clash(0, 0), x.clash(0, 1)), 1, 3);
        are("one alone", row(x.clash(1, 0), x.clash(1, 1)), NONE, NONE);
        are("wrong", row(x.clash(2, 0), x.clash(2, 2), x.clash(0, 2), x.clash(0, -1)), UNKNOWN, UNKNOWN, OUTSIDE, OUTSIDE);
        x.go(0, 1);
        are("on the way", row(x.clash(0, 0), x.clash(0, 2)), NOT, OUTSIDE);
        RipePromises older = on("t2;r0 1 4;k0 0;k0 0;p0 1 4 0 1 9;p0 0 1 9 1 0;p0 0 6 0 1 9;p1 0 9 9 1 9;p0 0 9 9 1 3;");
        are("0, which 1 is grafted on, is far away at 6", row(older.clash(0, 0), older.clash(0, 1)), 0, 2);
        older.takeDown(2);
        are("4 is never given", row(older.clash(0, 0), older.clash(0, 1)), 0, 4);
        older.takeDown(4);
        are("0 and 1 do", row(older.clash(0, 0), older.clash(0, 1)), NONE, NONE);
        RipePromises chain = on("t2;r0 1 4;k0 0;p0 1 4 0 1 9;p0 1 1 6 1 0;p0 1 1 6 1 1;p0 0 9 0 1 9;");
        are("3 at 9 in town 0: the chain of 2 needs 6 in town 1, then 10", row(chain.clash(0, 0), chain.clash(0, 1)), 2, 3);
    }

    private static void p19Still() {
        RipePromises x = on("t3;r0 1 2;k0 0;p0 0 5 0 1 9;");
        are("wrong", row(x.still(1, 0, 0), x.still(0, 3, 0), x.still(0, 3, 10), x.still(0, 0, 10), x.still(0, 0, -1)), UNKNOWN, UNKNOWN, UNKNOWN, OUTSIDE, OUTSIDE);
        is("here: all", x.still(0, 0, 0), Integer.MAX_VALUE - 1);
        is("no way there", x.still(0, 2, 9), 0);
        // there by day 2, back by day 5: ages 2 and 3; or behind day 5 from 7 on
        is("in town 1", x.still(0, 1, 0), (Integer.MAX_VALUE - 1) & ~(1 << 1 | 1 << 4 | 1 << 5 | 1 << 6));
        is("with a day of slack", x.still(0, 1, 1), (Integer.MAX_VALUE - 1) & ~(1 << 4 | 1 << 5));
        is("with 2", x.still(0, 1, 2), (Integer.MAX_VALUE - 1) & ~(1 << 4));
        x.day(5);
        is("given today: from day 5 on", x.still(0, 1, 0), (Integer.MAX_VALUE - 1) & ~(1 << 1));
        is("goes", x.go(0, 1), 7);
        are("on the way", row(x.still(0, 0, 0), x.still(0, 0, 10)), NOT, OUTSIDE);
        RipePromises w = on("t2;r0 1 9;k0 0;w0 6 9;");
        is("winters 0 to 5, 9 to 14: age 1 is 7, 2 is 8, 3 is 9", w.still(0, 1, 0), (Integer.MAX_VALUE - 1) & ~(1 << 1 | 1 << 2));
        RipePromises seven = on("t1;k0 0;" + "p0 0 9 9 1 9;".repeat(7));
        is("seven have room for an eighth", seven.still(0, 0, 0), Integer.MAX_VALUE - 1);
    }

    private static void p20Hands() {
        RipePromises x = on("t2;k0 0;k1 0;p0 1 3 9 2 9;p1 0 3 0 2 9;p0 0 2 0 4 9;");
        are("both change", row(x.hands(NONE), x.hands(0), x.hands(1), x.hands(2)), 2, 1, 0, 0);
        are("wrong", row(x.hands(3), x.hands(-2)), UNKNOWN, UNKNOWN);
        RipePromises fine = on(PLAIN);
        are("none has to", row(fine.hands(NONE), fine.hands(0), fine.hands(1), fine.hands(2)), 0, 0, 1, 0);
        fine.go(1, 1);
        are("somebody is on the way", row(fine.hands(NONE), fine.hands(0), fine.hands(3)), NOT, NOT, UNKNOWN);
        RipePromises never = on("t2;k0 0;p0 1 3 9 2 9;p0 0 1 0 2 9;");
        never.day(1);
        never.keep(1);
        are("nobody could", row(never.hands(NONE), never.hands(0)), NONE, NONE);
        RipePromises like = on("t2;r0 1 9;k1 0;k0 0;k0 0;p2 0 3 0 2 9;p2 1 3 0 2 9;p2 0 9 9 1 9;");
        are("1 cannot get to town 1 by 3 but keeper 0 is there", row(like.hands(NONE), like.hands(0), like.hands(1), like.hands(2)), 1, 2, 0, 2);
        RipePromises first = on("t2;r0 1 9;k0 0;k1 0;k0 0;p0 0 3 0 2 9;p0 1 3 0 2 9;p1 0 3 0 2 9;");
        are("1 and 2 change; 2 to the lesser", row(first.hands(NONE), first.hands(0), first.hands(1), first.hands(2)), 2, 0, 1, 0);
        RipePromises graft = on("t1;k0 0;k0 0;p1 0 2 5 2 9;p0 0 2 0 2 0;p0 0 1 0 2 9;");
        are("either 0 or 1: 0 to the lesser keeper", row(graft.hands(NONE), graft.hands(0), graft.hands(1), graft.hands(2)), 1, 0, 0, 0);
        graft.day(2);
        graft.keep(0);
        are("of one not open its own", row(graft.hands(NONE), graft.hands(0), graft.hands(1), graft.hands(2)), 0, 1, 0, 0);
    }

    private static void p21Calendar() {
        RipePromises x = on(PLAIN + "p0 3 6 0 1 9;");
        are("4 to 8", row(x.calendar(0, 4), x.calendar(0, 5), x.calendar(0, 6), x.calendar(0, 7), x.calendar(0, 8)), 0, 1, 2, 1, 0);
        are("1", row(x.calendar(1, 2), x.calendar(1, 3), x.calendar(1, 4)), 0, 1, 0);
        are("wrong", row(x.calendar(2, 0), x.calendar(-1, 10000), x.calendar(0, -1), x.calendar(0, 10000), x.calendar(0, 9999)), UNKNOWN, UNKNOWN, OUTSIDE, OUTSIDE, 0);
        is("day 0", x.calendar(0, 0), 0);
        x.go(0, 1);
        x.day(6);
        x.keep(0);
        are("kept ones no more, given ones from now on, days gone by too", row(x.calendar(0, 5), x.calendar(0, 6), x.calendar(0, 10), x.calendar(0, 13), x.calendar(0, 14)), 0, 1, 1, 1, 0);
    }

    private static void p22Busiest() {
        RipePromises x = on("t1;k0 0;k0 1;p0 0 5 2 1 9;p1 0 7 2 1 9;p1 0 7 0 1 0;");
        are("day 7 has two keepers' ones", row(x.busiest(0), x.busiest(1)), 7, 2);
        are("wrong", row(x.busiest(2), x.busiest(-1), new RipePromises().busiest(2), new RipePromises().busiest(1)), OUTSIDE, OUTSIDE, OUTSIDE, NOT);
        x.day(8);
        are("from today on", row(x.busiest(0), x.busiest(1)), 8, 1);
        x.day(2);
        are("none: today", row(x.busiest(0), x.busiest(1), x.told(5)), 10, 0, 10);
        RipePromises far = on("t1;k0 0;p0 0 20 0 1 9;w0 9 10;");
        are("day 200 is not of 200 days from 0", row(far.promise(0, 7), far.busiest(0), far.busiest(1), far.day(1), far.busiest(0), far.busiest(1)), 200, 0, 0, 1, 200, 1);
    }

    private static void p23Lives() {
        RipePromises x = on(PLAIN);
        are("3 days by 1, 100, 333, 1000, 0", row(x.lives(1, 1), x.lives(1, 100), x.lives(1, 333), x.lives(1, 1000), x.lives(1, 0)), 997002999, 729000000, 296740963, 0, 1000000000);
        are("cut each day: 999000000, 998001000, 997002999, 996005996, 995009990", row(x.lives(0, 1), x.lives(0, 999)), 995009990, 0);
        are("wrong", row(x.lives(3, 0), x.lives(-1, 1001), x.lives(0, 1001), x.lives(0, -1), x.lives(2, 1001), x.lives(2, 5)), UNKNOWN, UNKNOWN, OUTSIDE, OUTSIDE, OUTSIDE, NONE);
        x.day(3);
        are("ripe", row(x.lives(1, 1000), x.lives(0, 500)), 1000000000, 250000000);
        x.keep(1);
        is("not open", x.lives(1, 0), NONE);
        x.day(3);
        is("ripe for a day", x.lives(0, 1000), 1000000000);
    }

    private static void p24Share() {
        RipePromises x = on("t1;k0 0;k0 0;k0 1;p0 0 9 0 2 9;p1 0 9 0 4 9;p2 0 9 0 9 9;p1 0 1 0 5 9;");
        are("nothing fell", row(x.share(0), x.share(1), x.share(2), x.share(3), x.share(-1)), 0, 0, 0, UNKNOWN, UNKNOWN);
        x.day(2);
        are("5 by 2 and 9: 10/11, 45/11 (rest 10, 1): one more to the first", row(x.fell(0), x.share(0), x.share(1), x.share(2)), 5, 1, 4, 0);
        x.takeDown(1);
        are("7 by 2 and 9, open or not: 14/11, 63/11 (3, 8)", row(x.fell(0), x.share(0), x.share(1)), 7, 1, 6);
        RipePromises like = on("t1;k0 0;k0 0;k0 0;p0 0 9 0 3 9;p1 0 9 0 3 9;p2 0 1 0 3 9;");
        like.day(2);
        like.takeDown(0);
        are("4 by thirds: the least has one more", row(like.fell(0), like.share(0), like.share(1), like.share(2)), 4, 2, 1, 1);
        like.takeDown(1);
        are("5 by thirds: the two least", row(like.fell(0), like.share(0), like.share(1), like.share(2)), 5, 2, 2, 1);
        RipePromises none = on("t1;k0 1;k0 0;k0 0;p0 0 9 0 3 9;");
        are("none has any", row(none.share(1), none.share(2)), 0, 0);
        RipePromises left = on("t1;k0 1;k0 0;k0 0;p1 0 1 0 4 9;p0 0 9 0 4 9;p0 0 9 0 3 9;");
        left.day(2);
        left.swap(1, 2);
        are("all on the one that has it", row(left.fell(0), left.share(1), left.share(2), left.share(0)), 4, 4, 0, 0);
        RipePromises gone = on("t1;k0 1;k0 0;k0 0;p1 0 2 0 4 9;p1 0 1 0 2 9;p0 0 9 0 4 9;");
        gone.takeDown(1);
        are("1 fell", row(gone.fell(0), gone.share(1)), 1, 1);
        RipePromises still = on("t1;k0 1;k0 0;k0 0;p2 0 2 0 5 9;p0 0 9 0 5 9;p0 0 9 0 5 9;");
        still.day(3);
        still.swap(1, 2);
        are("5 fell by keeper 2, who has it still", row(still.fell(0), still.share(1), still.share(2)), 5, 0, 5);
    }

    private static void p25Let() {
        RipePromises x = on("t1;k0 0;k0 0;p0 0 1 0 2 9;p1 0 9 0 5 9;p0 0 9 0 3 9;p0 0 9 0 5 9;p0 0 9 0 9 9;");
        are("5: 2 and 3, or 5", row(x.let(0, 5, 0), x.let(0, 5, 1), x.let(0, 5, 2)), 2, 5, 0);
        are("14: 9 and 5, or 9 and 2 and 3", row(x.let(0, 14, 0), x.let(0, 14, 1), x.let(0, 14, 2)), 2, 21, 16);
        are("0: nothing", row(x.let(0, 0, 0), x.let(0, 0, 1), x.let(0, 0, 2)), 1, 0, 0);
        are("1: none", row(x.let(0, 1, 0), x.let(0, 1, 1), x.let(0, 1, 2)), 0, NONE, 0);
        are("all", row(x.let(0, 19, 0), x.let(0, 19, 1), x.let(0, 19, 2), x.let(0, 99, 0)), 1, 29, 29, 0);
        are("1's", row(x.let(1, 5, 0), x.let(1, 5, 1), x.let(1, 5, 2)), 1, 2, 2);
        are("wrong", row(x.let(2, 0, 0), x.let(2, 100, 3), x.let(0, 100, 0), x.let(0, -1, 0), x.let(0, 0, 3), x.let(0, 0, -1)), UNKNOWN, UNKNOWN, OUTSIDE, OUTSIDE, OUTSIDE, OUTSIDE);
        x.day(2);
        are("open or not", row(x.told(8), x.let(0, 5, 0)), 1, 2);
    }

    private static void p26Write() {
        RipePromises x = on(PLAIN);
        are("wrong", row(x.write(3, 0), x.write(-1, 10000), x.write(0, -1), x.write(0, 10000), x.told(10)), UNKNOWN, UNKNOWN, OUTSIDE, OUTSIDE, 0);
        for (int i = 0; i < 19; i++) {
            is("line", x.write(0, i == 0 ? 9999 : 0), i + 1);
        }
        are("full", row(x.write(2, 5), x.write(2, 5), x.write(2, 10000), x.write(7, 5), x.told(10)), 20, FULL, OUTSIDE, UNKNOWN, 20);
    }

    private static int judged(RipePromises x, int... lines) {
        x.tear();
        for (int i = 0; i + 1 < lines.length; i += 2) {
            x.write(lines[i], lines[i + 1]);
        }
        return x.judge();
    }

    private static void p27Judge() {
        RipePromises x = on(PLAIN);
        are("one", row(judged(x), judged(x, 0, 4), judged(x, 0, 5), judged(x, 0, 7), judged(x, 0, 8)), NONE, 0, NONE, NONE, 0);
        are("told twice", row(judged(x, 0, 5, 0, 6)), 1);
        are("grafted: given on the day told, in town 2 three days on", row(judged(x, 2, 9), judged(x, 0, 5, 2, 8), judged(x, 0, 5, 2, 9), judged(x, 0, 5, 2, 12), judged(x, 0, 5, 2, 13), judged(x, 0, 7, 2, 10)), 0, 1, NONE, NONE, 1, 1);
        are("days rise over keepers", row(judged(x, 1, 3, 0, 5, 2, 9), judged(x, 0, 5, 1, 3), judged(x, 1, 3, 0, 6, 2, 9)), NONE, 1, 2);
        is("the book stays", x.told(10), 3);
        x.day(2);
        are("from now: in town 1 by day 4, then 3 days", row(judged(x, 0, 5), judged(x, 1, 3, 0, 5)), NONE, NONE);
        x.day(2);
        are("by day 6; 1 fell", row(judged(x, 0, 5), judged(x, 0, 6), judged(x, 1, 4)), 0, NONE, 0);
        x.go(0, 2);
        are("on the way to town 2 till 9", row(judged(x, 0, 7)), 0);
        RipePromises way = on("t3;r0 1 2;r1 2 3;k0 0;p0 2 1 9 1 9;p0 0 1 9 1 9;p0 1 1 9 1 9;");
        way.go(0, 1);
        are("there on 2, on from there", row(judged(way, 0, 4), judged(way, 0, 5), judged(way, 1, 3), judged(way, 1, 4), judged(way, 2, 1), judged(way, 2, 2), judged(way, 2, 2, 0, 4), judged(way, 2, 2, 0, 5, 1, 10)), 0, NONE, 0, NONE, 0, NONE, 1, NONE);
        RipePromises apart = on("t2;k0 0;p0 1 1 9 1 9;p0 0 1 9 1 9;");
        apart.day(3);
        are("no way; a day that is gone", row(judged(apart, 0, 5), judged(apart, 1, 2), judged(apart, 1, 3), judged(apart, 1, 3, 0, 9)), 0, 0, NONE, 1);
        are("nothing changes", row(apart.told(6), apart.told(7), apart.told(5), apart.keeper(0, 2)), 3, 0, 3, 0);
    }

    private static void p28Tear() {
        RipePromises x = on(PLAIN);
        x.write(0, 5);
        x.write(1, 5);
        are("two lines", row(x.tear(), x.told(10), x.tear(), x.judge(), x.write(0, 5), x.judge()), 2, 0, 0, NONE, 1, NONE);
    }

    private static void p29Seed() {
        RipePromises x = new RipePromises();
        are("seeds", row(x.seed(5), x.seed(-1), x.seed(Integer.MAX_VALUE), x.seed(Integer.MIN_VALUE), x.seed(0), x.seed(3)), 0, OUTSIDE, 5, OUTSIDE, Integer.MAX_VALUE, 0);
        RipePromises y = on("t1;k0 0;");
        y.seed(Integer.MAX_VALUE);
        y.drift(1);
        is("2147483647 times 1103515245 and 12345, left over", y.seed(0), (2147483647L * 1103515245L + 12345L) % 2147483648L);
    }

    private static void p30Image() {
        RipePromises x = on(PLAIN);
        are("wrong", row(x.image(2), x.image(-1)), UNKNOWN, UNKNOWN);
        x.day(3);
        are("nothing can be undone then", row(x.image(0), x.told(11), x.undo(1), x.day(1), x.told(11)), 1, 0, NOT, 4, 1);
        are("the later one counts", row(x.image(0), x.day(4), x.goBack(0), x.told(5)), 1, 8, 1, 4);
        are("of no towns", row(new RipePromises().image(1)), 1);
    }

    private static void p31GoBack() {
        RipePromises x = on(PLAIN);
        are("wrong", row(x.goBack(2), x.goBack(-1), x.goBack(0), x.goBack(1)), UNKNOWN, UNKNOWN, NOT, NOT);
        x.seed(9);
        x.go(0, 1);
        x.swap(0, 2);
        x.image(0);
        x.day(3);
        x.keep(1);
        x.takeDown(2);
        x.seed(10);
        x.image(1);
        x.day(5);
        x.seed(11);
        x.write(0, 6);
        are("0", row(x.goBack(0), x.told(5), x.told(6), x.told(11), x.fell(0), x.keeper(0, 0), x.keeper(0, 2), x.seed(7)), 1, 0, 7, 0, 0, 1, 2, 9);
        are("the book is none of it", row(x.told(10), x.judge()), 1, NONE);
        are("1", row(x.goBack(1), x.told(5), x.told(6), x.told(7), x.told(9), x.fell(0), x.seed(7)), 1, 3, 1, 2, 4, 2, 10);
        are("again", row(x.day(9), x.goBack(1), x.told(5), x.goBack(0), x.told(5)), 12, 1, 3, 1, 0);
        RipePromises y = on("t1;k0 0;k0 0;p0 0 9 0 2 9;p1 0 9 0 2 9;");
        y.image(1);
        y.swap(0, 1);
        are("keepers too; 0 was not kept", row(y.goBack(0), y.promise(0, 0), y.goBack(1), y.promise(0, 0)), NOT, 1, 1, 0);
    }

    /** Any call with any numbers on any of some states: none may throw. */
    private static void wildNumbers() {
        int[] wild = {Integer.MIN_VALUE, -1000000001, -2, -1, 0, 1, 2, 3, 6, 7, 9, 31, 32, 1000, Integer.MAX_VALUE};
        String[] texts = {"", "t1;", PLAIN, "t5;k0 0;k1 1;k2 2;" + "p0 1 2 9 3 9;".repeat(7) + "w1 1 2;"};
        for (String text : texts) {
            for (int a : wild) {
                for (int b : wild) {
                    RipePromises x = on(text);
                    x.image(0);
                    int sum = x.far(a, b) ^ x.keeper(a, b) ^ x.promise(a, b) ^ x.swap(a, b) ^ x.plan(a, b) ^ x.clash(a, b) ^ x.calendar(a, b);
                    sum ^= x.lives(a, b) ^ x.write(a, b) ^ x.go(a, b) ^ x.still(a, b, 3) ^ x.still(0, a, b) ^ x.let(a, b, 1) ^ x.let(0, a, b);
                    sum ^= x.feed(a) ^ x.told(a) ^ x.fell(a) ^ x.day(a) ^ x.keep(a) ^ x.takeDown(a) ^ x.drift(a) ^ x.undo(b) ^ x.hands(a);
                    sum ^= x.busiest(a) ^ x.share(a) ^ x.judge() ^ x.seed(a) ^ x.image(a) ^ x.goBack(b) ^ x.tear() ^ x.fault() ^ x.land();
                    is("all calls answer", sum | 1, sum | 1);
                }
            }
        }
    }

    public static void main(String[] args) {
        Runnable[] all = {PromiseTests::p01NewObject, PromiseTests::p02Feed, PromiseTests::p03Land, PromiseTests::p04Fault, PromiseTests::p05Told,
            PromiseTests::p06Far, PromiseTests::p07Keeper, PromiseTests::p08Promise, PromiseTests::p09Fell, PromiseTests::p10Go, PromiseTests::p11Day,
            PromiseTests::p12Keep, PromiseTests::p13TakeDown, PromiseTests::p14Swap, PromiseTests::p15Drift, PromiseTests::p16Undo, PromiseTests::p17Plan,
            PromiseTests::p18Clash, PromiseTests::p19Still, PromiseTests::p20Hands, PromiseTests::p21Calendar, PromiseTests::p22Busiest,
            PromiseTests::p23Lives, PromiseTests::p24Share, PromiseTests::p25Let, PromiseTests::p26Write, PromiseTests::p27Judge, PromiseTests::p28Tear,
            PromiseTests::p29Seed, PromiseTests::p30Image, PromiseTests::p31GoBack, PromiseTests::wildNumbers};
        for (int i = 0; i < all.length; i++) {
            about("promise " + (i + 1), all[i]);
        }
        end("PromiseTests");
    }
}
