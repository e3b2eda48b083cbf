/** THE BOOK, THE SEED and IMAGES, promises 26 to 31: a test for each sentence that names an edge. */
public final class BookEdges extends Check {
    private static int judged(RipePromises x, int... lines) {
        x.tear();
        for (int i = 0; i + 1 < lines.length; i += 2) {
            x.write(lines[i], lines[i + 1]);
        }
        return x.judge();
    }

    private static void write() {
        sentence("A line behind THE BOOK (a day 0 .. 9999): how many. UNKNOWN, OUTSIDE, FULL (20).", () -> {
            RipePromises x = on(PLAIN);
            are("unknown", row(x.write(-1, 0), x.write(3, 0), x.write(3, -1), x.write(-1, 10000)), UNKNOWN, UNKNOWN, UNKNOWN, UNKNOWN);
            are("outside", row(x.write(0, -1), x.write(0, 10000), x.write(2, Integer.MIN_VALUE), x.write(2, Integer.MAX_VALUE)), OUTSIDE, OUTSIDE, OUTSIDE, OUTSIDE);
            are("the first and the last day, the last promise", row(x.told(10), x.write(0, 0), x.write(2, 9999), x.told(10)), 0, 1, 2, 2);
            for (int line = 3; line <= 20; line++) {
                is("line " + line, x.write(1, 3), line);
            }
            are("full; the others come first", row(x.write(1, 3), x.write(0, 9999), x.write(0, 10000), x.write(3, 0), x.write(3, 10000), x.told(10)), FULL, FULL, OUTSIDE, UNKNOWN, UNKNOWN, 20);
            RipePromises none = new RipePromises();
            are("no promises", row(none.write(0, 0), none.write(0, -1)), UNKNOWN, UNKNOWN);
            RipePromises kept = on(PLAIN);
            kept.takeDown(0);
            are("one that is not open may stand there", row(kept.write(0, 5), kept.judge()), 1, 0);
        });
    }

    private static void judge() {
        sentence("THE BOOK (20 at most) tells PROMISES kept one behind the other and on which day, from now", () -> {
            RipePromises x = on("t1;k0 0;p0 0 2 9 1 9;p0 0 2 9 1 9;");
            are("from day 0", row(judged(x, 0, 2, 1, 2), x.told(10)), NONE, 2);
            x.day(3);
            are("from day 3: the lines are as they were", row(x.told(10), x.judge(), judged(x, 0, 3, 1, 3)), 2, 0, NONE);
        });
        sentence("WRONG; NONE.", () -> {
            RipePromises x = on("t1;k0 0;p0 0 2 0 1 9;");
            are("no lines, a good one, a wrong one behind it", row(x.judge(), x.write(0, 2), x.judge(), x.write(0, 2), x.judge()), NONE, 1, NONE, 2, 1);
        });
        sentence("WRONG: the first that cannot be", () -> {
            RipePromises x = on("t1;k0 0;p0 0 5 2 1 9;p0 0 5 2 1 9;p0 0 1 9 1 0;");
            are("none: an empty book, a book that can be", row(judged(x), judged(x, 0, 5, 1, 5, 2, 6)), NONE, NONE);
            are("the first of several", row(judged(x, 0, 4, 1, 4), judged(x, 0, 5, 1, 4, 0, 6), judged(x, 0, 5, 1, 5, 1, 5, 0, 0)), 0, 1, 2);
            is("the place in the book, not the promise", judged(x, 1, 5, 0, 9), 1);
            RipePromises full = on("t1;k0 0;" + "p0 0 1 9 1 9;".repeat(7));
            for (int line = 0; line < 20; line++) {
                full.write(line < 7 ? line : 0, 1);
            }
            is("the eighth of twenty", full.judge(), 7);
            is("no towns", new RipePromises().judge(), NONE);
        });
        sentence("(its KEEPER goes there at once when it has kept the last one told of it, else now from where it is, or as soon as it is there", () -> {
            RipePromises x = on("t3;r0 1 3;r1 2 3;k0 0;k0 0;p0 1 1 9 1 9;p0 0 1 9 1 9;p1 1 1 9 1 9;p0 2 9 9 1 9;");
            are("now from where it is: there on 3", row(judged(x, 0, 2), judged(x, 0, 3)), 0, NONE);
            are("when it has kept the last one of its own: 3 days from the day told", row(judged(x, 0, 4, 1, 6), judged(x, 0, 4, 1, 7), judged(x, 0, 4, 3, 9), judged(x, 0, 7, 3, 9), judged(x, 0, 7, 3, 10)), 1, NONE, NONE, 1, NONE);
            are("the other keeper goes by itself", row(judged(x, 0, 3, 2, 3, 1, 6), judged(x, 0, 3, 2, 4, 1, 6)), NONE, NONE);
            x.day(2);
            are("now is day 2: there on 5", row(judged(x, 0, 4), judged(x, 0, 5), judged(x, 1, 1), judged(x, 1, 2)), 0, NONE, 0, NONE);
            x.go(0, 1);
            are("on the way till 5: there, then on from there", row(judged(x, 0, 4), judged(x, 0, 5), judged(x, 1, 7), judged(x, 1, 8)), 0, NONE, 0, NONE);
            x.day(4);
            are("there since 5, now is 6", row(judged(x, 0, 5), judged(x, 0, 6), judged(x, 3, 8), judged(x, 3, 9)), 0, NONE, 0, NONE);
            is("no way", judged(on("t2;k0 0;p0 1 1 9 1 9;"), 0, 9), 0);
        });
        sentence("not OPEN, not RIPE, too late, a day ahead of that told before); NONE.", () -> {
            RipePromises x = on("t1;k0 0;p0 0 3 2 1 9;p0 0 4 2 1 9;p0 0 2 1 1 0;p0 0 1 0 1 9;p0 0 9 9 1 9;");
            are("not ripe, the first day, the last day, too late", row(judged(x, 0, 2), judged(x, 0, 3), judged(x, 0, 5), judged(x, 0, 6)), 0, NONE, NONE, 0);
            are("the same day, a day ahead", row(judged(x, 1, 4, 0, 4), judged(x, 1, 5, 0, 4), judged(x, 1, 5, 0, 5)), NONE, 1, NONE);
            are("grafted: not given, then by the day told", row(judged(x, 2, 5), judged(x, 2, 5, 0, 5), judged(x, 0, 3, 2, 4), judged(x, 0, 3, 2, 5), judged(x, 0, 3, 2, 6), judged(x, 0, 3, 2, 7)), 0, 0, 1, NONE, NONE, 1);
            is("twice", judged(x, 0, 3, 0, 4), 1);
            x.takeDown(4);
            x.day(3);
            x.keep(0);
            are("kept, fallen, taken down", row(judged(x, 0, 4), judged(x, 3, 4), judged(x, 4, 9), judged(x, 1, 4)), 0, 0, 0, NONE);
            are("grafted on one kept on day 3", row(judged(x, 2, 4), judged(x, 2, 5), judged(x, 2, 6), judged(x, 2, 7)), 0, NONE, NONE, 0);
        });
        sentence("THE BOOK is empty: how many lines it had.", () -> {
            RipePromises x = on(PLAIN);
            are("none", row(x.tear(), new RipePromises().tear()), 0, 0);
            for (int line = 0; line < 20; line++) {
                x.write(0, 0);
            }
            are("twenty, then none", row(x.judge(), x.tear(), x.told(10), x.tear(), x.judge(), x.write(0, 5), x.judge()), 0, 20, 0, 0, NONE, 1, NONE);
        });
    }

    private static void seed() {
        sentence("THE SEED becomes v (0 .. 2147483647): what it was. OUTSIDE.", () -> {
            RipePromises x = new RipePromises();
            are("bounds", row(x.seed(0), x.seed(Integer.MAX_VALUE), x.seed(-1), x.seed(Integer.MIN_VALUE), x.seed(7), x.seed(0)), 0, 0, OUTSIDE, OUTSIDE, Integer.MAX_VALUE, 7);
        });
    }

    private static void images() {
        sentence("IMAGES 0, 1 keep all of section 2, THE SEED.", () -> {
            RipePromises x = on("t2;r0 1 2;k0 0;k1 1;p0 0 2 1 4 9;p1 1 2 0 6 9;p0 0 9 9 8 9;p1 1 9 9 4 0;");
            x.day(1);
            x.go(1, 0);
            x.swap(0, 3);
            x.seed(5);
            int[][] before = {toldAll(x), keeperAll(x, 0), keeperAll(x, 1), promiseAll(x, 0), promiseAll(x, 1), promiseAll(x, 2), promiseAll(x, 3)};
            before[0][11] = 0;
            x.image(1);
            x.day(4);
            x.go(0, 1);
            x.takeDown(2);
            x.seed(6);
            x.image(0);
            x.drift(9);
            is("back", x.goBack(1), 1);
            int[][] then = {toldAll(x), keeperAll(x, 0), keeperAll(x, 1), promiseAll(x, 0), promiseAll(x, 1), promiseAll(x, 2), promiseAll(x, 3)};
            for (int i = 0; i < before.length; i++) {
                are("row " + i, then[i], before[i]);
            }
            are("fell, the seed", row(x.fell(0), x.fell(1), x.seed(1)), 0, 0, 5);
            are("the other one", row(x.goBack(0), x.told(5), x.fell(0), x.fell(1), x.keeper(0, 2), x.told(9), x.seed(1)), 1, 5, 4, 10, 7, 12, 6);
            are("an image stays: again", row(x.goBack(1), x.told(5), x.goBack(0), x.told(5), x.goBack(0), x.told(5)), 1, 1, 1, 5, 1, 5);
        });
        sentence("IMAGE i becomes what is so (nothing can be undone then): 1. UNKNOWN.", () -> {
            RipePromises x = on("t1;");
            are("0, 1", row(x.image(-1), x.image(0), x.image(1), x.image(2)), UNKNOWN, 1, 1, UNKNOWN);
            are("far out", row(x.image(Integer.MIN_VALUE), x.image(Integer.MAX_VALUE)), UNKNOWN, UNKNOWN);
            are("nothing can be undone", row(x.day(9), x.told(11), x.image(0), x.told(11), x.undo(1)), 9, 9, 1, 0, NOT);
            are("days behind it can, up to it", row(x.day(2), x.told(11), x.undo(3), x.undo(2), x.undo(1)), 11, 2, NOT, 9, NOT);
            are("it becomes another", row(x.day(3), x.image(0), x.day(1), x.goBack(0), x.told(5)), 12, 1, 13, 1, 12);
            are("an image of no towns", row(new RipePromises().image(0), new RipePromises().image(1)), 1, 1);
        });
        sentence("What is so becomes IMAGE i (nothing can be undone then): 1. UNKNOWN, NOT: it was not kept.", () -> {
            RipePromises x = on("t1;");
            are("unknown, not kept", row(x.goBack(-1), x.goBack(2), x.goBack(Integer.MAX_VALUE), x.goBack(0), x.goBack(1)), UNKNOWN, UNKNOWN, UNKNOWN, NOT, NOT);
            x.image(1);
            are("the one is kept, not the other", row(x.goBack(0), x.goBack(1), x.goBack(-1)), NOT, 1, UNKNOWN);
            are("nothing can be undone", row(x.day(5), x.goBack(1), x.told(5), x.told(11), x.undo(1)), 5, 1, 0, 0, NOT);
            are("a text with a fault leaves it, another does not", row(tell(x, "t1"), x.goBack(1), tell(x, "t1;"), x.goBack(1)), -11, 1, 1, NOT);
            RipePromises none = new RipePromises();
            are("of no towns", row(none.goBack(0), none.image(0), none.goBack(0), none.told(0)), NOT, 1, 1, 0);
        });
    }

    public static void main(String[] args) {
        write();
        judge();
        seed();
        images();
        end("BookEdges");
    }
}
