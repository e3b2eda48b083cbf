import java.util.ArrayList;
import java.util.Arrays;
import java.util.List;
import java.util.Random;

/**
 * What one call foretells, others bring about: in drawn lands (fixed seeds) each answer that is only tried is acted out on
 * other objects, day by day, by going and keeping alone. No second way to find a plan is needed for that.
 * java ActedOut [how many times as many lands]
 */
public final class ActedOut extends Check {
    /** An object answers 512 calls: a day lived through takes some 14 of them. */
    private static final int MOST_LIVED = 25;

    private static Random random;
    private static int rounds = 1;

    /** A text in parts, so that one part can be told otherwise. */
    private record Told(String ahead, List<int[]> keepers, List<int[]> promises) {
        private String text() {
            StringBuilder s = new StringBuilder(ahead);
            keepers.forEach(k -> s.append("k").append(k[0]).append(' ').append(k[1]).append(';'));
            for (int[] p : promises) {
                s.append('p');
                for (int i = 0; i < p.length; i++) {
                    s.append(i == 0 ? "" : " ").append(p[i]);
                }
                s.append(';');
            }
            return s.toString();
        }

        private Told with(int[] promise) {
            List<int[]> more = new ArrayList<>(promises);
            more.add(promise);
            return new Told(ahead, keepers, more);
        }

        /** The same promises with other keepers, and maybe a keeper more. */
        private Told dealt(int[] holders, boolean oneMore) {
            List<int[]> other = new ArrayList<>(keepers);
            if (oneMore) {
                other.add(row(0, 0));
            }
            List<int[]> given = new ArrayList<>();
            for (int p = 0; p < holders.length; p++) {
                int[] one = promises.get(p).clone();
                one[0] = holders[p];
                given.add(one);
            }
            return new Told(ahead, other, given);
        }
    }

    private static int draw(int low, int high) {
        return low + random.nextInt(high - low + 1);
    }

    private static Told drawn(int mostKeepers, int mostPromises, int oldest, int slackest) {
        int towns = draw(2, 4);
        StringBuilder ahead = new StringBuilder("t" + towns + ";");
        for (int i = draw(1, 5); i > 0; i--) {
            int a = draw(0, towns - 1);
            int b = (a + draw(1, towns - 1)) % towns;
            ahead.append("r").append(a).append(' ').append(b).append(' ').append(draw(1, 3)).append(';');
        }
        if (draw(0, 1) == 0) {
            int round = draw(2, 9);
            ahead.append("w").append(draw(0, 98)).append(' ').append(draw(0, round - 1)).append(' ').append(round).append(';');
        }
        List<int[]> keepers = new ArrayList<>();
        for (int k = draw(1, mostKeepers); k > 0; k--) {
            keepers.add(row(draw(0, towns - 1), draw(0, 1)));
        }
        List<int[]> promises = new ArrayList<>();
        for (int p = draw(1, mostPromises); p > 0; p--) {
            int graft = promises.isEmpty() || draw(0, 2) > 0 ? 9 : draw(0, promises.size() - 1);
            promises.add(row(draw(0, keepers.size() - 1), draw(0, towns - 1), draw(1, oldest), draw(0, slackest), draw(1, 9), graft));
        }
        return new Told(ahead.toString(), keepers, promises);
    }

    private static void forDrawn(String what, int lands, Runnable one) {
        for (int i = 1; i <= lands * rounds; i++) {
            random = new Random(i * 1000003L);
            about(what + ", land " + i, one);
        }
    }

    /** So that a test cannot pass by drawing nothing that it is about. */
    private static void found(String what, boolean enough) {
        is(what + " often enough", enough ? 1 : 0, 1);
    }

    private static List<int[]> orders(List<Integer> of) {
        List<int[]> all = new ArrayList<>();
        if (of.isEmpty()) {
            all.add(row());
        }
        for (int first : of) {
            List<Integer> rest = new ArrayList<>(of);
            rest.remove((Integer) first);
            for (int[] behind : orders(rest)) {
                int[] order = new int[of.size()];
                order[0] = first;
                System.arraycopy(behind, 0, order, 1, behind.length);
                all.add(order);
            }
        }
        return all;
    }

    private static List<Integer> members(int set) {
        List<Integer> all = new ArrayList<>();
        for (int i = 0; i < 31; i++) {
            if ((set >> i & 1) != 0) {
                all.add(i);
            }
        }
        return all;
    }

    private static int openOf(RipePromises x, int k) {
        return x.keeper(k, 3) & x.told(6);
    }

    // ---- plans

    /** How many days it travels, if it keeps them in this order and none of them before its day; NONE if it cannot. */
    private static int walked(RipePromises x, int k, int[] order) {
        int travel = 0;
        for (int p : order) {
            if (x.keeper(k, 0) != x.promise(p, 1)) {
                int there = x.go(k, x.promise(p, 1));
                if (there == NOT) {
                    return NONE;
                }
                travel += there - x.told(5);
                daysTo(x, there);
            }
            if (x.promise(p, 7) == NONE) {
                return NONE;
            }
            daysTo(x, x.promise(p, 7));
            if (x.keep(p) == NOT) {
                return NONE;
            }
        }
        return travel;
    }

    private static RipePromises later(Told land, int seed, int days) {
        RipePromises x = on(land.text());
        x.seed(seed);
        if (days > 0) {
            x.drift(days);
        }
        return x;
    }

    private static void plans() {
        int[] seen = new int[3];
        forDrawn("the plan is the best of all walks", 400, () -> {
            Told land = drawn(2, 5, 12, 6);
            int seed = draw(0, 999);
            int days = draw(0, 6);
            RipePromises x = later(land, seed, days);
            for (int k = 0; k < land.keepers().size(); k++) {
                if (x.keeper(k, 2) > days) {
                    seen[2]++;
                    is("on the way", x.plan(k, NONE), NOT);
                    continue;
                }
                int least = NONE;
                int[] best = {};
                for (int[] order : orders(members(openOf(x, k)))) {
                    int travel = walked(later(land, seed, days), k, order);
                    if (travel != NONE && (least == NONE || travel < least)) {
                        least = travel;
                        best = order;
                    }
                }
                seen[least == NONE ? 0 : 1]++;
                is(land.text() + " by " + seed + ", " + days + ": travel of " + k, x.plan(k, NONE), least);
                for (int i = 0; i < 6; i++) {
                    is(land.text() + " by " + seed + ", " + days + ": place " + i + " of " + k, x.plan(k, i), i < best.length ? best[i] : NONE);
                }
                if (least != NONE) {
                    inTheBook(x, later(land, seed, days), k, best);
                }
            }
        });
        about("plans", () -> found("plans, none and ways", seen[0] > 50 && seen[1] > 50 && seen[2] > 20));
    }

    /** A walk that was done stands in the book, and no line of it stands a day sooner. */
    private static void inTheBook(RipePromises x, RipePromises actor, int k, int[] order) {
        walked(actor, k, order);
        for (int p : order) {
            x.write(p, actor.promise(p, 8));
        }
        is("the book of the walk of " + k, x.judge(), NONE);
        x.tear();
        for (int i = 0; i < order.length; i++) {
            for (int j = 0; j <= i; j++) {
                x.write(order[j], actor.promise(order[j], 8) - (j == i ? 1 : 0));
            }
            is("the book with line " + i + " a day sooner", x.judge(), i);
            x.tear();
        }
    }

    // ---- still

    private static void ages() {
        int[] seen = new int[2];
        forDrawn("what may still be promised has a plan when it is told", 60, () -> {
            Told land = drawn(2, 4, 12, 6);
            int seed = draw(0, 999);
            int days = draw(0, 6);
            int town = draw(0, 1);
            int slack = draw(0, 9);
            RipePromises x = later(land, seed, days);
            int gone = 0;
            RipePromises calm = on(land.text());
            for (int day = 0; day < days; day++) {
                gone += 1 - calm.told(12);
                calm.day(1);
            }
            for (int k = 0; k < land.keepers().size(); k++) {
                if (x.keeper(k, 2) > days) {
                    is("on the way", x.still(k, town, slack), NOT);
                    continue;
                }
                int due = 0;
                for (int age = 1; age <= 30; age++) {
                    // Given on day 0 and older by the days gone without winter, it is ripe when one given today is.
                    RipePromises told = later(land.with(row(k, town, gone + age, slack, 9, 9)), seed, days);
                    due |= told.plan(k, NONE) == NONE ? 0 : 1 << age;
                }
                seen[0] += Integer.bitCount(due);
                seen[1] += 30 - Integer.bitCount(due);
                is(land.text() + " by " + seed + ", " + days + ": still " + k + " in " + town + ", slack " + slack, x.still(k, town, slack), due);
            }
        });
        about("ages", () -> found("ages of both kinds", seen[0] > 200 && seen[1] > 200));
    }

    // ---- clash, hands

    private static RipePromises waited(Told land, int days) {
        RipePromises x = on(land.text());
        daysTo(x, days);
        return x;
    }

    private static int withOlder(RipePromises x, int k, int p) {
        int set = 0;
        for (int one = p; one != NONE && (openOf(x, k) >> one & 1) != 0; one = x.promise(one, 5)) {
            set |= 1 << one;
        }
        return set;
    }

    private static int[] holders(Told land) {
        return land.promises().stream().mapToInt(p -> p[0]).toArray();
    }

    private static void clashes() {
        int[] seen = new int[2];
        forDrawn("two clash if it has no plan with these alone", 300, () -> {
            Told land = drawn(2, 6, 9, 3);
            int days = draw(0, 3);
            RipePromises x = waited(land, days);
            for (int k = 0; k < land.keepers().size(); k++) {
                int[] due = {NONE, NONE};
                for (int p = 0; p < land.promises().size() && due[0] == NONE; p++) {
                    for (int q = p + 1; q < land.promises().size() && due[0] == NONE; q++) {
                        boolean own = (openOf(x, k) >> p & openOf(x, k) >> q & 1) != 0;
                        if (own && waited(onlyWith(land, k, withOlder(x, k, p) | withOlder(x, k, q)), days).plan(k, NONE) == NONE) {
                            due = row(p, q);
                        }
                    }
                }
                seen[due[0] == NONE ? 0 : 1]++;
                are(land.text() + " on " + days + ": clash of " + k, row(x.clash(k, 0), x.clash(k, 1)), due);
            }
        });
        about("clashes", () -> found("both kinds", seen[0] > 50 && seen[1] > 50));
    }

    /** What else the keeper has goes to a keeper more. */
    private static Told onlyWith(Told land, int k, int set) {
        int[] holders = holders(land);
        for (int p = 0; p < holders.length; p++) {
            if (holders[p] == k && (set >> p & 1) == 0) {
                holders[p] = land.keepers().size();
            }
        }
        return land.dealt(holders, true);
    }

    private static void dealings() {
        int[] seen = new int[3];
        forDrawn("the fewest hands are those of a land told so", 150, () -> {
            Told land = drawn(3, 4, 9, 3);
            int days = draw(0, 3);
            RipePromises x = waited(land, days);
            int open = x.told(6);
            int[] own = holders(land);
            int fewest = NONE;
            int[] best = {};
            for (int[] dealing : dealingsOf(land, open)) {
                int changed = 0;
                for (int p = 0; p < own.length; p++) {
                    changed += dealing[p] == own[p] ? 0 : 1;
                }
                if ((fewest == NONE || changed < fewest) && allHavePlans(waited(land.dealt(dealing, false), days))) {
                    fewest = changed;
                    best = dealing;
                }
            }
            seen[Math.min(fewest, 1) + 1]++;
            is(land.text() + " on " + days + ": hands", x.hands(NONE), fewest);
            for (int p = 0; p < own.length; p++) {
                is(land.text() + " on " + days + ": hands of " + p, x.hands(p), fewest == NONE ? NONE : best[p]);
            }
        });
        about("dealings", () -> found("none, no change, changes", seen[0] > 15 && seen[1] > 15 && seen[2] > 15));
    }

    private static boolean allHavePlans(RipePromises x) {
        for (int k = 0; k < x.told(2); k++) {
            if (x.plan(k, NONE) == NONE) {
                return false;
            }
        }
        return true;
    }

    private static List<int[]> dealingsOf(Told land, int open) {
        List<int[]> all = List.of(holders(land));
        for (int p = land.promises().size() - 1; p >= 0; p--) {
            List<int[]> more = new ArrayList<>();
            for (int k = 0; k < land.keepers().size() && (open >> p & 1) != 0; k++) {
                for (int[] one : all) {
                    int[] other = one.clone();
                    other[p] = k;
                    more.add(other);
                }
            }
            all = more.isEmpty() ? all : more;
        }
        return all;
    }

    // ---- one promise, day by day

    private static void ripening() {
        int[] seen = new int[3];
        forDrawn("kept on its own days alone", 200, () -> {
            Told land = drawn(1, 2, 12, 5);
            RipePromises x = on(land.text());
            int[] older = land.promises().get(0);
            int p = land.promises().size() - 1;
            int town = land.promises().get(p)[1];
            if (x.far(x.keeper(0, 0), older[1]) == NONE || x.far(older[1], town) == NONE) {
                return;
            }
            int given = 0;
            if (land.promises().get(p)[5] == 0) {
                walked(x, 0, row(0));
                given = x.told(5);
                if (x.told(7) != 1) {
                    return;
                }
                seen[1]++;
            }
            x.go(0, town);
            seen[0]++;
            seen[2] += dayByDay(x, p, given, land.promises().get(p)) ? 1 : 0;
        });
        about("ripening", () -> found("lived through, grafted, fallen", seen[0] > 100 && seen[1] > 20 && seen[2] > 80));
    }

    /** Does it fall in the end? */
    private static boolean dayByDay(RipePromises x, int p, int given, int[] promise) {
        int aged = 0;
        int ripe = NONE;
        for (int day = given; day < given + MOST_LIVED; day++) {
            // Its age in days without winter tells when it is ripe, not promise(p, 7).
            if (aged == promise[2] && ripe == NONE) {
                ripe = day;
            }
            boolean due = ripe != NONE && day >= ripe && day <= ripe + promise[3];
            aged += 1 - x.told(12);
            is("calendar of day " + day, x.calendar(0, day) - othersOn(x, p, day), due ? 1 : 0);
            x.image(0);
            is("keep on day " + day, x.keep(p), due && x.keeper(0, 2) <= day ? promise[4] : NOT);
            x.goBack(0);
            int fell = x.fell(x.keeper(0, 1));
            int last = ripe + promise[3];
            x.day(1);
            if (ripe != NONE && day == last) {
                are("it falls", row(x.promise(p, 6), x.promise(p, 7), x.promise(p, 8)), 2, ripe, last);
                is("all of it", x.fell(x.keeper(0, 1)) - fell >= promise[4] ? 1 : 0, 1);
                return true;
            }
            is("open behind day " + day, x.promise(p, 6), 0);
        }
        return false;
    }

    private static int othersOn(RipePromises x, int p, int day) {
        if (p == 0 || x.promise(0, 6) != 0) {
            return 0;
        }
        int ripe = x.promise(0, 7);
        return day >= ripe && day <= ripe + x.promise(0, 3) ? 1 : 0;
    }

    // ---- calendars, shares, sets

    private static void counts() {
        forDrawn("what is counted adds up", 150, () -> {
            Told land = drawn(3, 7, 60, 9);
            int seed = draw(0, 999);
            int days = draw(0, 12);
            RipePromises x = later(land, seed, days);
            int[] due = new int[200];
            for (int k = 0; k < land.keepers().size(); k++) {
                RipePromises other = later(land, seed, days);
                for (int i = 0; i < due.length; i++) {
                    due[i] += other.calendar(k, days + i);
                }
            }
            int first = 0;
            for (int i = 0; i < due.length; i++) {
                first = due[i] > due[first] ? i : first;
            }
            are(land.text() + ": the busiest day", row(x.busiest(0), x.busiest(1)), days + first, due[first]);
            shares(x, land);
            int sets = 0;
            for (int v = 0; v < 64; v++) {
                sets += x.let(0, v, 0);
            }
            is("sets of all sizes", sets, 1 << Integer.bitCount(x.keeper(0, 3)));
        });
    }

    private static void shares(RipePromises x, Told land) {
        for (int f = 0; f < 2; f++) {
            int sum = 0;
            int sizes = 0;
            boolean any = false;
            for (int k = 0; k < land.keepers().size(); k++) {
                if (x.keeper(k, 1) == f) {
                    any = true;
                    sum += x.share(k);
                    sizes += sizesOf(x, k);
                }
            }
            is("shares of family " + f, sum, any ? x.fell(f) : 0);
            for (int k = 0; k < land.keepers().size() && sizes > 0; k++) {
                if (x.keeper(k, 1) == f) {
                    int off = x.share(k) * sizes - x.fell(f) * sizesOf(x, k);
                    is("the share of " + k + " is within one of what is fair", Math.abs(off) < sizes ? 1 : 0, 1);
                }
            }
        }
    }

    private static int sizesOf(RipePromises x, int k) {
        int sum = 0;
        for (int p : members(x.keeper(k, 3))) {
            sum += x.promise(p, 4);
        }
        return sum;
    }

    // ---- draws, days undone

    private static List<Integer> state(RipePromises x) {
        List<Integer> all = new ArrayList<>();
        for (int what = 5; what < 10; what++) {
            all.add(x.told(what));
        }
        for (int f = 0; f < 3; f++) {
            all.add(x.fell(f));
        }
        for (int k = 0; k < x.told(2); k++) {
            all.add(Arrays.hashCode(keeperAll(x, k)));
        }
        for (int p = 0; p < x.told(3); p++) {
            all.add(Arrays.hashCode(promiseAll(x, p)));
        }
        return all;
    }

    private static void draws() {
        int[] kept = new int[1];
        forDrawn("days by draws are goings, keepings and days", 150, () -> {
            Told land = drawn(3, 7, 4, 9);
            long seed = random.nextInt() & Integer.MAX_VALUE;
            int days = draw(1, 15);
            RipePromises x = later(land, (int) seed, days);
            RipePromises y = on(land.text());
            for (int day = 0; day < days; day++) {
                for (int k = 0; k < land.keepers().size(); k++) {
                    if (y.keeper(k, 2) > day) {
                        continue;
                    }
                    members(openOf(y, k)).forEach(y::keep);
                    seed = (seed * 1103515245 + 12345) % (1L << 31);
                    y.go(k, (int) (seed / 65536 % (2 * y.told(0))));
                }
                y.day(1);
            }
            kept[0] += Integer.bitCount(y.told(7));
            is("the seed", x.seed(0), seed);
            is(land.text() + ": the same state", state(x).equals(state(y)) ? 1 : 0, 1);
        });
        about("draws", () -> found("kept by draws", kept[0] > 50));
    }

    private static void daysUndone() {
        forDrawn("days undone", 150, () -> {
            Told land = drawn(3, 5, 9, 5);
            RipePromises x = on(land.text());
            List<List<Integer>> before = new ArrayList<>();
            int days = draw(1, 7);
            for (int day = 0; day < days; day++) {
                someDeeds(x);
                before.add(state(x));
                x.day(1);
            }
            someDeeds(x);
            int back = draw(1, days);
            is("undone to the day", x.undo(back), days - back);
            is(land.text() + ": as it was", state(x).equals(before.get(days - back)) ? 1 : 0, 1);
            is("left", x.told(11), days - back);
        });
    }

    private static void someDeeds(RipePromises x) {
        int p = draw(0, x.told(3) - 1);
        switch (draw(0, 4)) {
            case 0 -> x.takeDown(p);
            case 1 -> x.swap(p, draw(0, x.told(3) - 1));
            case 2 -> x.keep(p);
            default -> x.go(draw(0, x.told(2) - 1), draw(0, x.told(0) - 1));
        }
    }

    public static void main(String[] args) {
        rounds = args.length > 0 ? Integer.parseInt(args[0]) : 1;
        plans();
        ages();
        clashes();
        dealings();
        ripening();
        counts();
        draws();
        daysUndone();
        end("ActedOut");
    }
}
