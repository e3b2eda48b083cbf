import java.util.ArrayList;
import java.util.Arrays;
import java.util.List;
import java.util.function.Function;
import java.util.function.Supplier;
import java.util.function.ToIntFunction;

/**
 * What is refused changes nothing, and neither does what is only tried: the call is made on one of two like objects,
 * and then both are asked for all that they show now and for all that later calls can bring to light.
 */
public final class RefusalTests extends Check {
    private static final int MIN = Integer.MIN_VALUE, MAX = Integer.MAX_VALUE;
    private static final List<Function<RipePromises, List<Integer>>> PROBES = List.of(x -> List.of(x.fault()), RefusalTests::shown,
        RefusalTests::byDaysUndone, RefusalTests::byAllDaysUndone, x -> byImage(x, 0), x -> byImage(x, 1), RefusalTests::byDraws, RefusalTests::byTheText);

    private static Supplier<RipePromises> scene;
    private static String where = "";

    // ---- what can be seen

    private static List<Integer> shown(RipePromises x) {
        List<Integer> all = new ArrayList<>();
        add(all, toldAll(x));
        add(all, row(x.fell(0), x.fell(1), x.fell(2), x.judge()));
        for (int p = 0; p < x.told(3); p++) {
            add(all, promiseAll(x, p));
        }
        for (int k = 0; k < x.told(2); k++) {
            add(all, keeperAll(x, k));
            add(all, row(x.plan(k, NONE)));
        }
        for (int town = 1; town < x.told(0); town++) {
            add(all, row(x.far(0, town)));
        }
        return all;
    }

    private static void add(List<Integer> all, int[] more) {
        for (int one : more) {
            all.add(one);
        }
    }

    private static List<Integer> byDaysUndone(RipePromises x) {
        List<Integer> all = new ArrayList<>();
        add(all, row(x.undo(1)));
        all.addAll(shown(x));
        add(all, row(x.undo(1)));
        all.addAll(shown(x));
        return all;
    }

    private static List<Integer> byAllDaysUndone(RipePromises x) {
        List<Integer> all = new ArrayList<>();
        add(all, row(x.undo(x.told(11))));
        all.addAll(shown(x));
        return all;
    }

    private static List<Integer> byImage(RipePromises x, int i) {
        List<Integer> all = new ArrayList<>();
        add(all, row(x.goBack(i), x.seed(0)));
        all.addAll(shown(x));
        return all;
    }

    private static List<Integer> byDraws(RipePromises x) {
        List<Integer> all = new ArrayList<>();
        add(all, row(x.drift(9)));
        all.addAll(shown(x));
        add(all, row(x.seed(0)));
        return all;
    }

    private static List<Integer> byTheText(RipePromises x) {
        List<Integer> all = new ArrayList<>();
        add(all, row(x.feed(';'), x.land()));
        all.addAll(shown(x));
        return all;
    }

    // ---- the objects

    /** Promise 0 is ripe, 1 kept, 2 fallen, 3 taken down, 4 not given, 5 and 6 not ripe; keeper 1 is on the way; day 6. */
    private static RipePromises midstUntold() {
        RipePromises x = on("t4;r0 1 2;r1 2 3;k0 0;k2 1;k1 2;p0 1 5 4 5 9;p1 2 3 0 4 9;p1 2 1 0 5 9;p2 1 9 0 5 9;p2 1 9 3 5 0;p0 0 20 2 5 9;p0 0 30 0 6 9;");
        x.seed(77);
        x.day(2);
        x.takeDown(3);
        x.day(1);
        x.keep(1);
        x.image(0);
        x.write(0, 9);
        x.write(5, 20);
        x.day(2);
        x.go(1, 1);
        x.seed(5);
        x.day(1);
        return x;
    }

    /** With a text that is told but for its end. */
    private static RipePromises midst() {
        RipePromises x = midstUntold();
        feedAll(x, "t2;k1 2");
        return x;
    }

    private static RipePromises allThere() {
        RipePromises x = midst();
        x.day(2);
        return x;
    }

    private static RipePromises noTowns() {
        RipePromises x = new RipePromises();
        x.seed(9);
        x.image(1);
        feedAll(x, "t3");
        return x;
    }

    private static RipePromises fullText() {
        RipePromises x = new RipePromises();
        feedAll(x, "t3;" + " ".repeat(242) + "k2 1;");
        return x;
    }

    private static RipePromises fullBook() {
        RipePromises x = on("t1;k0 0;p0 0 3 9 1 9;p0 0 3 9 1 9;");
        for (int line = 0; line < 20; line++) {
            x.write(line == 19 ? 1 : 0, 3);
        }
        return x;
    }

    private static RipePromises late(int day) {
        RipePromises x = on("t1;k0 0;");
        daysTo(x, day);
        x.seed(3);
        return x;
    }

    // ---- what is compared

    private static void unchanged(String call, int due, ToIntFunction<RipePromises> it) {
        for (int probe = 0; probe < PROBES.size(); probe++) {
            RipePromises with = scene.get();
            is(call, it.applyAsInt(with), due);
            List<Integer> seen = PROBES.get(probe).apply(with);
            List<Integer> otherwise = PROBES.get(probe).apply(scene.get());
            is(call + " changes what probe " + probe + " sees", Arrays.equals(seen.toArray(), otherwise.toArray()) ? 1 : 0, 1);
        }
    }

    @SafeVarargs
    private static void refused(String call, int due, ToIntFunction<RipePromises>... calls) {
        for (int i = 0; i < calls.length; i++) {
            unchanged(where + call + " [" + i + "]", due, calls[i]);
        }
    }

    private static void in(String name, Supplier<RipePromises> made, Runnable test) {
        scene = made;
        where = name + ": ";
        sentence("What is refused changes nothing.", test);
    }

    private static void inTheMidst() {
        refused("feed", OUTSIDE, x -> x.feed(-1), x -> x.feed(256), x -> x.feed(MIN), x -> x.feed(MAX));
        refused("told", OUTSIDE, x -> x.told(-1), x -> x.told(13));
        refused("far", UNKNOWN, x -> x.far(-1, 0), x -> x.far(4, 0), x -> x.far(0, -1), x -> x.far(0, 4));
        refused("keeper", UNKNOWN, x -> x.keeper(-1, 0), x -> x.keeper(3, 0), x -> x.keeper(3, 4));
        refused("keeper", OUTSIDE, x -> x.keeper(0, -1), x -> x.keeper(0, 4));
        refused("promise", UNKNOWN, x -> x.promise(-1, 0), x -> x.promise(7, 0), x -> x.promise(7, 9));
        refused("promise", OUTSIDE, x -> x.promise(0, -1), x -> x.promise(0, 9));
        refused("fell", UNKNOWN, x -> x.fell(-1), x -> x.fell(3));
        refused("go", UNKNOWN, x -> x.go(-1, 0), x -> x.go(3, 0), x -> x.go(0, -1), x -> x.go(0, 4), x -> x.go(1, 4));
        refused("go", NOT, x -> x.go(1, 2), x -> x.go(1, 1), x -> x.go(1, 0), x -> x.go(0, 0), x -> x.go(0, 3));
        refused("day", OUTSIDE, x -> x.day(0), x -> x.day(100), x -> x.day(MIN), x -> x.day(MAX));
        refused("keep", UNKNOWN, x -> x.keep(-1), x -> x.keep(7));
        refused("keep", NOT, x -> x.keep(0), x -> x.keep(1), x -> x.keep(2), x -> x.keep(3), x -> x.keep(4), x -> x.keep(5), x -> x.keep(6));
        refused("takeDown", UNKNOWN, x -> x.takeDown(-1), x -> x.takeDown(7));
        refused("takeDown", NOT, x -> x.takeDown(0), x -> x.takeDown(1), x -> x.takeDown(2), x -> x.takeDown(3));
        refused("swap", UNKNOWN, x -> x.swap(-1, 0), x -> x.swap(0, -1), x -> x.swap(7, 0), x -> x.swap(0, 7), x -> x.swap(4, 4), x -> x.swap(2, 2));
        refused("swap", NOT, x -> x.swap(4, 6), x -> x.swap(6, 4), x -> x.swap(4, 2), x -> x.swap(2, 4), x -> x.swap(4, 3), x -> x.swap(3, 4), x -> x.swap(1, 4));
        refused("drift", OUTSIDE, x -> x.drift(0), x -> x.drift(100), x -> x.drift(MIN), x -> x.drift(MAX));
        refused("undo", OUTSIDE, x -> x.undo(0), x -> x.undo(31), x -> x.undo(MIN), x -> x.undo(MAX));
        refused("undo", NOT, x -> x.undo(4), x -> x.undo(30));
    }

    private static void triedInTheMidst() {
        refused("plan", UNKNOWN, x -> x.plan(-1, NONE), x -> x.plan(3, 0));
        refused("plan", NOT, x -> x.plan(1, NONE), x -> x.plan(1, 0));
        refused("clash", UNKNOWN, x -> x.clash(-1, 0), x -> x.clash(3, 2));
        refused("clash", OUTSIDE, x -> x.clash(0, -1), x -> x.clash(1, 2));
        refused("clash", NOT, x -> x.clash(1, 0), x -> x.clash(1, 1));
        refused("still", UNKNOWN, x -> x.still(-1, 0, 0), x -> x.still(3, 0, 0), x -> x.still(0, -1, 0), x -> x.still(0, 4, 10));
        refused("still", OUTSIDE, x -> x.still(0, 0, -1), x -> x.still(1, 0, 10));
        refused("still", NOT, x -> x.still(1, 0, 0));
        refused("hands", UNKNOWN, x -> x.hands(-2), x -> x.hands(7));
        refused("hands", NOT, x -> x.hands(NONE), x -> x.hands(0));
        refused("calendar", UNKNOWN, x -> x.calendar(-1, 0), x -> x.calendar(3, -1));
        refused("calendar", OUTSIDE, x -> x.calendar(0, -1), x -> x.calendar(0, 10000));
        refused("busiest", OUTSIDE, x -> x.busiest(-1), x -> x.busiest(2));
        refused("lives", UNKNOWN, x -> x.lives(-1, 0), x -> x.lives(7, 1001));
        refused("lives", OUTSIDE, x -> x.lives(0, -1), x -> x.lives(0, 1001));
        refused("share", UNKNOWN, x -> x.share(-1), x -> x.share(3));
        refused("let", UNKNOWN, x -> x.let(-1, 0, 0), x -> x.let(3, 100, 3));
        refused("let", OUTSIDE, x -> x.let(0, -1, 0), x -> x.let(0, 100, 0), x -> x.let(0, 0, -1), x -> x.let(0, 0, 3));
        refused("write", UNKNOWN, x -> x.write(-1, 0), x -> x.write(7, 10000));
        refused("write", OUTSIDE, x -> x.write(0, -1), x -> x.write(0, 10000));
        refused("seed", OUTSIDE, x -> x.seed(-1), x -> x.seed(MIN));
        refused("image", UNKNOWN, x -> x.image(-1), x -> x.image(2));
        refused("goBack", UNKNOWN, x -> x.goBack(-1), x -> x.goBack(2));
        refused("goBack", NOT, x -> x.goBack(1));
    }

    private static void withNoTowns() {
        refused("all that has a number", UNKNOWN, x -> x.far(0, 0), x -> x.keeper(0, 0), x -> x.promise(0, 0), x -> x.go(0, 0), x -> x.keep(0),
            x -> x.takeDown(0), x -> x.swap(0, 1), x -> x.plan(0, NONE), x -> x.clash(0, 0), x -> x.still(0, 0, 0), x -> x.hands(0),
            x -> x.calendar(0, 0), x -> x.lives(0, 0), x -> x.share(0), x -> x.let(0, 0, 0), x -> x.write(0, 0));
        refused("days", NOT, x -> x.day(1), x -> x.day(99), x -> x.drift(1), x -> x.drift(99), x -> x.undo(1), x -> x.busiest(0), x -> x.busiest(1), x -> x.goBack(0));
        refused("days", OUTSIDE, x -> x.day(0), x -> x.drift(100), x -> x.undo(0), x -> x.busiest(2));
    }

    private static void inTheirOrder() {
        RipePromises x = midst();
        are("UNKNOWN ahead of OUTSIDE", row(x.keeper(3, 4), x.promise(7, 9), x.clash(3, 2), x.still(3, 0, 10), x.still(0, 4, 10), x.calendar(3, -1), x.lives(7, 1001),
            x.let(3, 100, 3), x.write(7, 10000)), UNKNOWN, UNKNOWN, UNKNOWN, UNKNOWN, UNKNOWN, UNKNOWN, UNKNOWN, UNKNOWN, UNKNOWN);
        are("UNKNOWN ahead of NOT: keeper 1 is on the way, promise 2 is not open", row(x.go(1, 4), x.still(1, 4, 0), x.hands(7), x.swap(2, 2), x.swap(2, 7), x.swap(7, 2)),
            UNKNOWN, UNKNOWN, UNKNOWN, UNKNOWN, UNKNOWN, UNKNOWN);
        are("OUTSIDE ahead of NOT", row(x.clash(1, 2), x.still(1, 0, 10), x.undo(31)), OUTSIDE, OUTSIDE, OUTSIDE);
        RipePromises none = noTowns();
        are("with no towns, too", row(none.day(0), none.day(100), none.drift(0), none.drift(100), none.busiest(2), none.undo(0), none.goBack(2)),
            OUTSIDE, OUTSIDE, OUTSIDE, OUTSIDE, OUTSIDE, OUTSIDE, UNKNOWN);
        are("OUTSIDE ahead of FULL", row(fullText().feed(256), fullBook().write(0, 10000), late(9001).day(0), late(9001).drift(100)), OUTSIDE, OUTSIDE, OUTSIDE, OUTSIDE);
        are("UNKNOWN ahead of FULL", row(fullBook().write(2, 0), fullBook().write(2, 10000)), UNKNOWN, UNKNOWN);
    }

    private static void whatIsFull() {
        in("a text of 250 letters", RefusalTests::fullText, () -> {
            refused("feed", FULL, x -> x.feed(';'), x -> x.feed(' '), x -> x.feed('t'));
            refused("feed", OUTSIDE, x -> x.feed(-1), x -> x.feed(256));
        });
        in("a book of 20 lines", RefusalTests::fullBook, () -> {
            refused("write", FULL, x -> x.write(0, 3), x -> x.write(1, 0), x -> x.write(1, 9999));
            refused("write", OUTSIDE, x -> x.write(1, 10000));
            refused("write", UNKNOWN, x -> x.write(2, 3));
        });
        in("a day above 9000", () -> late(9001), () -> {
            refused("day", FULL, x -> x.day(1), x -> x.day(99));
            refused("drift", FULL, x -> x.drift(1), x -> x.drift(99));
            refused("undo", OUTSIDE, x -> x.undo(31));
        });
    }

    /** Each of these texts would tell another land up to its fault. */
    private static void textsWithFaults() {
        String[] texts = {"t2;r0 1 1;k0 0;p0 0 1 0 1 9;q", "t2;r0 1 1;k0 0;w0 1 2;p0 0 61 0 1 9;", "t2;w0 1 2;k0 0;t", "t2;k0 0;p0 0 1 0 1 9;r0 0 1;", "r", "t"};
        int[] answers = {-11, -12, -13, -14, -11, -11};
        int[] places = {28, 27, 15, 24, 0, 1};
        for (int i = 0; i < texts.length; i++) {
            for (int probe = 1; probe < PROBES.size(); probe++) {
                RipePromises with = midstUntold();
                are(texts[i], row(tell(with, texts[i]), with.fault(), with.told(4)), answers[i], places[i], 0);
                List<Integer> seen = PROBES.get(probe).apply(with);
                List<Integer> otherwise = PROBES.get(probe).apply(midstUntold());
                is(texts[i] + " changes what probe " + probe + " sees", Arrays.equals(seen.toArray(), otherwise.toArray()) ? 1 : 0, 1);
            }
        }
    }

    private static void tried() {
        List<ToIntFunction<RipePromises>> calls = List.of(x -> x.plan(0, NONE), x -> x.plan(0, 0), x -> x.plan(1, NONE), x -> x.plan(2, 5), x -> x.clash(0, 0),
            x -> x.clash(0, 1), x -> x.still(0, 1, 9), x -> x.still(2, 0, 0), x -> x.hands(NONE), x -> x.hands(0), x -> x.hands(6), x -> x.calendar(0, 9),
            x -> x.busiest(0), x -> x.busiest(1), x -> x.lives(5, 10), x -> x.share(0), x -> x.share(1), x -> x.let(0, 5, 0), x -> x.let(0, 5, 1),
            x -> x.let(0, 5, 2), x -> x.judge(), x -> x.told(5), x -> x.far(0, 2), x -> x.keeper(0, 0), x -> x.promise(0, 7), x -> x.fell(0), x -> x.fault());
        for (int i = 0; i < calls.size(); i++) {
            int answer = calls.get(i).applyAsInt(scene.get());
            is("call " + i + " is taken", answer > -1000000000 ? 1 : 0, 1);
            unchanged("call " + i, answer, calls.get(i));
        }
    }

    private static void sceneIsAsTold() {
        RipePromises x = midst();
        are("the midst", toldAll(x), 4, 2, 3, 7, 7, 6, 0b1110001, 2, 4, 8, 2, 3, 0);
        are("on the way; seeds", row(x.plan(1, NONE), x.seed(0), x.goBack(0), x.seed(0), x.goBack(1)), NOT, 5, 1, 77, NOT);
    }

    public static void main(String[] args) {
        about("the objects of these tests", RefusalTests::sceneIsAsTold);
        sentence("REFUSALS, of several the first in this order: UNKNOWN", RefusalTests::inTheirOrder);
        in("in the midst", RefusalTests::midst, RefusalTests::inTheMidst);
        in("in the midst, what is tried", RefusalTests::midst, RefusalTests::triedInTheMidst);
        in("with no towns", RefusalTests::noTowns, RefusalTests::withNoTowns);
        whatIsFull();
        sentence("-10 less the number of its FAULT (all else is as it was)", RefusalTests::textsWithFaults);
        scene = RefusalTests::allThere;
        sentence("TRIED from now; nothing changes by it.", RefusalTests::tried);
        end("RefusalTests");
    }
}
