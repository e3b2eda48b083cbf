import java.util.ArrayList;
import java.util.Collections;
import java.util.List;

/**
 * The document once more, written another way: days are counted one by one, all orders are made before
 * one is chosen, every state is a fresh copy. Slow on purpose: ModelRuns compares the program with it.
 */
public final class Model {
    static final int NONE = -1, UNKNOWN = -1000000001, OUTSIDE = -1000000002, NOT = -1000000003, FULL = -1000000004;

    record Pledge(int holder, int town, int age, int slack, int size, int graft) { }
    record Keeper(int town, int family) { }
    record Road(int a, int b, int days) { }
    record Line(int p, int day) { }
    record Token(int at, int word, String figures) { }

    static final class Country {
        int towns;
        List<Road> roads = new ArrayList<>();
        List<Keeper> keepers = new ArrayList<>();
        List<Pledge> pledges = new ArrayList<>();
        int[] winter;
        int fault, faultAt = NONE;

        private final int[][] known = new int[5][5];

        int far(int from, int to) {
            if (known[from][to] == 0) known[from][to] = farAnew(from, to) + 2;
            return known[from][to] - 2;
        }

        private int farAnew(int from, int to) {
            Integer[] best = new Integer[towns];
            best[from] = 0;
            for (int round = 0; round < towns; round++) {
                for (Road r : roads) {
                    if (best[r.a] != null && (best[r.b] == null || best[r.b] > best[r.a] + r.days)) best[r.b] = best[r.a] + r.days;
                    if (best[r.b] != null && (best[r.a] == null || best[r.a] > best[r.b] + r.days)) best[r.a] = best[r.b] + r.days;
                }
            }
            return best[to] == null ? NONE : best[to];
        }

        boolean winterOn(int day) {
            if (winter == null) return false;
            int over = (day - winter[0]) % winter[2];
            return (over < 0 ? over + winter[2] : over) < winter[1];
        }

        int ripe(int given, int age) {
            int day = given;
            for (int counted = 0; counted < age; day++) if (!winterOn(day)) counted++;
            return day;
        }
    }

    static final class Now {
        int day;
        int[] holder, how, ended, town, there, fell = new int[3];

        Now(Country c) {
            int ps = c.pledges.size(), ks = c.keepers.size();
            holder = new int[ps];
            how = new int[ps];
            ended = new int[ps];
            town = new int[ks];
            there = new int[ks];
            for (int p = 0; p < ps; p++) { holder[p] = c.pledges.get(p).holder; ended[p] = NONE; }
            for (int k = 0; k < ks; k++) town[k] = c.keepers.get(k).town;
        }

        Now(Now o) {
            day = o.day;
            holder = o.holder.clone();
            how = o.how.clone();
            ended = o.ended.clone();
            town = o.town.clone();
            there = o.there.clone();
            fell = o.fell.clone();
        }
    }

    private final StringBuilder text = new StringBuilder();
    private Country c = new Country();
    private Now now = new Now(c);
    private int faultAt = NONE;
    private List<Now> past = new ArrayList<>();
    private Now[] images = new Now[2];
    private long[] imageSeeds = new long[2];
    private long seed;
    private List<Line> book = new ArrayList<>();

    // ---- the text: tokens first, then what each clause wants

    private static List<Token> tokens(String s) {
        List<Token> all = new ArrayList<>();
        for (int i = 0; i < s.length();) {
            int j = i;
            while (j < s.length() && s.charAt(j) >= '0' && s.charAt(j) <= '9') j++;
            if (j > i) { all.add(new Token(i, '0', s.substring(i, j))); i = j; continue; }
            if (s.charAt(i) != ' ') all.add(new Token(i, s.charAt(i), ""));
            i++;
        }
        all.add(new Token(s.length(), NONE, ""));
        return all;
    }

    private static Country parse(String s) {
        Country c = new Country();
        List<Token> all = tokens(s);
        int i = 0;
        while (all.get(i).word != NONE) {
            Token word = all.get(i++);
            int wants = word.word == 't' ? 1 : word.word == 'r' ? 3 : word.word == 'k' ? 2 : word.word == 'p' ? 6 : word.word == 'w' ? 3 : 0;
            if (wants == 0 || c.towns == 0 && word.word != 't') return wrong(c, 1, word.at);
            boolean again = word.word == 't' && c.towns > 0 || word.word == 'w' && c.winter != null || word.word == 'r' && c.roads.size() == 8
                || word.word == 'k' && c.keepers.size() == 3 || word.word == 'p' && c.pledges.size() == 7;
            if (again) return wrong(c, 3, word.at);
            int[] v = new int[wants];
            for (int n = 0; n < wants; n++) {
                Token t = all.get(i++);
                if (t.word != '0') return wrong(c, 1, t.at);
                if (t.figures.length() > 3) return wrong(c, 2, t.at);
                v[n] = Integer.parseInt(t.figures);
                int fault = bad(c, word.word, n, v);
                if (fault != 0) return wrong(c, fault, t.at);
            }
            Token end = all.get(i++);
            if (end.word != ';') return wrong(c, 1, end.at);
            switch (word.word) {
                case 't' -> c.towns = v[0];
                case 'r' -> c.roads.add(new Road(v[0], v[1], v[2]));
                case 'k' -> c.keepers.add(new Keeper(v[0], v[1]));
                case 'p' -> c.pledges.add(new Pledge(v[0], v[1], v[2], v[3], v[4], v[5] == 9 ? NONE : v[5]));
                default -> c.winter = v;
            }
        }
        return c;
    }

    private static int bad(Country c, int word, int n, int[] v) {
        int[][] bounds = switch (word) {
            case 't' -> new int[][] {{1, 5}};
            case 'r' -> new int[][] {{0, c.towns - 1}, {0, c.towns - 1}, {1, 9}};
            case 'k' -> new int[][] {{0, c.towns - 1}, {0, 2}};
            case 'p' -> new int[][] {{0, c.keepers.size() - 1}, {0, c.towns - 1}, {1, 60}, {0, 9}, {1, 9}, {0, 9}};
            default -> new int[][] {{0, 98}, {0, 98}, {2, 99}};
        };
        if (v[n] < bounds[n][0] || v[n] > bounds[n][1]) return 2;
        if (word == 'p' && n == 5 && v[5] != 9 && v[5] >= c.pledges.size()) return 2;
        if (word == 'r' && n == 1 && v[1] == v[0]) return 4;
        return word == 'w' && n == 2 && v[1] >= v[2] ? 4 : 0;
    }

    private static Country wrong(Country c, int fault, int at) {
        c.fault = fault;
        c.faultAt = at;
        return c;
    }

    public int feed(int letter) {
        if (letter < 0 || letter > 255) return OUTSIDE;
        if (text.length() == 250) return FULL;
        return text.append((char) letter).length();
    }

    public int land() {
        Country next = parse(text.toString());
        text.setLength(0);
        faultAt = next.faultAt;
        if (next.fault != 0) return -10 - next.fault;
        c = next;
        now = new Now(c);
        past.clear();
        images = new Now[2];
        book.clear();
        return c.towns;
    }

    public int fault() { return faultAt; }

    // ---- what is so

    private boolean noTown(int t) { return t < 0 || t >= c.towns; }
    private boolean noKeeper(int k) { return k < 0 || k >= c.keepers.size(); }
    private boolean noPledge(int p) { return p < 0 || p >= c.pledges.size(); }
    private boolean away(int k) { return now.there[k] > now.day; }

    private List<Integer> which(int how) {
        List<Integer> all = new ArrayList<>();
        for (int p = 0; p < c.pledges.size(); p++) if (now.how[p] == how) all.add(p);
        return all;
    }

    private static int bits(List<Integer> all) {
        int set = 0;
        for (int p : all) set |= 1 << p;
        return set;
    }

    private List<Integer> held(int k) {
        List<Integer> all = new ArrayList<>();
        for (int p = 0; p < c.pledges.size(); p++) if (now.holder[p] == k) all.add(p);
        return all;
    }

    private List<Integer> openOf(int k) {
        List<Integer> all = held(k);
        all.retainAll(which(0));
        return all;
    }

    private int ripe(Now n, int p) {
        int g = c.pledges.get(p).graft;
        if (g == NONE) return c.ripe(0, c.pledges.get(p).age);
        return n.how[g] == 1 ? c.ripe(n.ended[g], c.pledges.get(p).age) : NONE;
    }

    private boolean due(Now n, int p, int day) {
        int r = ripe(n, p);
        return r != NONE && r <= day && day <= r + c.pledges.get(p).slack;
    }

    public int told(int what) {
        int[] all = {c.towns, c.roads.size(), c.keepers.size(), c.pledges.size(), text.length(), now.day, bits(which(0)), bits(which(1)),
            bits(which(2)), bits(which(3)), book.size(), past.size(), c.winterOn(now.day) ? 1 : 0};
        return what < 0 || what >= all.length ? OUTSIDE : all[what];
    }

    public int far(int from, int to) { return noTown(from) || noTown(to) ? UNKNOWN : c.far(from, to); }

    public int keeper(int k, int what) {
        if (noKeeper(k)) return UNKNOWN;
        int[] all = {now.town[k], c.keepers.get(k).family, now.there[k], bits(held(k))};
        return what < 0 || what >= all.length ? OUTSIDE : all[what];
    }

    public int promise(int p, int what) {
        if (noPledge(p)) return UNKNOWN;
        Pledge g = c.pledges.get(p);
        int[] all = {now.holder[p], g.town, g.age, g.slack, g.size, g.graft, now.how[p], ripe(now, p), now.ended[p]};
        return what < 0 || what >= all.length ? OUTSIDE : all[what];
    }

    public int fell(int f) { return f < 0 || f > 2 ? UNKNOWN : now.fell[f]; }

    // ---- days

    public int go(int k, int town) {
        if (noKeeper(k) || noTown(town)) return UNKNOWN;
        if (away(k) || now.town[k] == town || c.far(now.town[k], town) < 0) return NOT;
        now.there[k] = now.day + c.far(now.town[k], town);
        now.town[k] = town;
        return now.there[k];
    }

    private void downBy(int p) {
        for (int q = 0; q < c.pledges.size(); q++) {
            if (c.pledges.get(q).graft == p && now.how[q] == 0) {
                now.how[q] = 3;
                now.ended[q] = now.day;
                downBy(q);
            }
        }
    }

    private void lost(int p, int how, int falls) {
        now.how[p] = how;
        now.ended[p] = now.day;
        now.fell[c.keepers.get(now.holder[p]).family] += falls;
        downBy(p);
    }

    private void oneDay() {
        past.add(new Now(now));
        if (past.size() > 30) past.remove(0);
        for (int p : which(0)) {
            if (ripe(now, p) != NONE && ripe(now, p) + c.pledges.get(p).slack == now.day) lost(p, 2, c.pledges.get(p).size);
        }
        now.day++;
    }

    private int refused(int n) { return n < 1 || n > 99 ? OUTSIDE : c.towns == 0 ? NOT : now.day > 9000 ? FULL : 0; }

    public int day(int n) {
        if (refused(n) != 0) return refused(n);
        while (n-- > 0) oneDay();
        return now.day;
    }

    private boolean keeps(int p) {
        int k = now.holder[p];
        if (now.how[p] != 0 || away(k) || now.town[k] != c.pledges.get(p).town || !due(now, p, now.day)) return false;
        now.how[p] = 1;
        now.ended[p] = now.day;
        return true;
    }

    public int keep(int p) { return noPledge(p) ? UNKNOWN : keeps(p) ? c.pledges.get(p).size : NOT; }

    public int takeDown(int p) {
        if (noPledge(p)) return UNKNOWN;
        if (now.how[p] != 0 || ripe(now, p) != NONE && ripe(now, p) <= now.day) return NOT;
        lost(p, 3, c.pledges.get(p).size / 2);
        return c.pledges.get(p).size / 2;
    }

    public int swap(int p, int q) {
        if (noPledge(p) || noPledge(q) || p == q) return UNKNOWN;
        if (now.how[p] != 0 || now.how[q] != 0 || c.pledges.get(p).size != c.pledges.get(q).size) return NOT;
        int k = now.holder[p];
        now.holder[p] = now.holder[q];
        now.holder[q] = k;
        return 1;
    }

    public int drift(int n) {
        if (refused(n) != 0) return refused(n);
        while (n-- > 0) {
            for (int k = 0; k < c.keepers.size(); k++) {
                if (away(k)) continue;
                for (int p : held(k)) keeps(p);
                seed = (seed * 1103515245L + 12345L) % (1L << 31);
                go(k, (int) (seed / 65536 % (2 * c.towns)));
            }
            oneDay();
        }
        return now.day;
    }

    public int undo(int n) {
        if (n < 1 || n > 30) return OUTSIDE;
        if (n > past.size()) return NOT;
        now = new Now(past.get(past.size() - n));
        past = new ArrayList<>(past.subList(0, past.size() - n));
        return now.day;
    }

    // ---- tried

    private static void orders(List<Integer> left, List<Integer> made, List<List<Integer>> all) {
        if (left.isEmpty()) all.add(new ArrayList<>(made));
        for (int p : left) {
            List<Integer> rest = new ArrayList<>(left);
            rest.remove((Integer) p);
            made.add(p);
            orders(rest, made, all);
            made.remove(made.size() - 1);
        }
    }

    /** Days of travel of an order, NONE if it fails; tried: {number, town, ripe, slack} or null. */
    private int travel(int k, List<Integer> order, int[] tried) {
        Now n = new Now(now);
        int at = now.town[k], day = now.day, sum = 0;
        for (int p : order) {
            boolean extra = tried != null && tried[0] == p;
            int town = extra ? tried[1] : c.pledges.get(p).town;
            int slack = extra ? tried[3] : c.pledges.get(p).slack;
            int far = c.far(at, town);
            int ripe = extra ? tried[2] : ripe(n, p);
            if (far < 0 || ripe == NONE) return NONE;
            day = Math.max(day + far, ripe);
            if (day > ripe + slack) return NONE;
            sum += far;
            at = town;
            if (!extra) { n.how[p] = 1; n.ended[p] = day; }
        }
        return sum;
    }

    private List<Integer> bestOrder(int k, List<Integer> set, int[] tried) {
        List<List<Integer>> all = new ArrayList<>();
        orders(set, new ArrayList<>(), all);
        List<Integer> best = null;
        for (List<Integer> order : all) {
            int t = travel(k, order, tried);
            if (t != NONE && (best == null || t < travel(k, best, tried))) best = order;
        }
        return best;
    }

    public int plan(int k, int i) {
        if (noKeeper(k)) return UNKNOWN;
        if (away(k)) return NOT;
        List<Integer> best = bestOrder(k, openOf(k), null);
        if (best == null) return NONE;
        if (i == NONE) return travel(k, best, null);
        return i < 0 || i >= best.size() ? NONE : best.get(i);
    }

    private void addOlder(int p, int k, List<Integer> set) {
        if (set.contains(p)) return;
        set.add(p);
        int g = c.pledges.get(p).graft;
        if (g != NONE && now.how[g] == 0 && now.holder[g] == k) addOlder(g, k, set);
    }

    public int clash(int k, int what) {
        if (noKeeper(k)) return UNKNOWN;
        if (what != 0 && what != 1) return OUTSIDE;
        if (away(k)) return NOT;
        for (int p : openOf(k)) {
            for (int q : openOf(k)) {
                if (q <= p) continue;
                List<Integer> set = new ArrayList<>();
                addOlder(p, k, set);
                addOlder(q, k, set);
                if (bestOrder(k, set, null) == null) return what == 0 ? p : q;
            }
        }
        return NONE;
    }

    public int still(int k, int town, int s) {
        if (noKeeper(k) || noTown(town)) return UNKNOWN;
        if (s < 0 || s > 9) return OUTSIDE;
        if (away(k)) return NOT;
        List<Integer> with = openOf(k);
        with.add(7);
        List<List<Integer>> all = new ArrayList<>();
        orders(with, new ArrayList<>(), all);
        int set = 0;
        for (int age = 1; age <= 30; age++) {
            for (List<Integer> order : all) {
                if (travel(k, order, new int[] {7, town, c.ripe(now.day, age), s}) != NONE) { set |= 1 << age; break; }
            }
        }
        return set;
    }

    private int[] bestHands;
    private int bestChanges;

    private void deal(int p, int[] dealt, int changes, boolean[][] can) {
        if (p == c.pledges.size()) {
            if (bestHands != null && changes >= bestChanges) return;
            int[] sets = new int[c.keepers.size()];
            for (int q = 0; q < p; q++) if (now.how[q] == 0) sets[dealt[q]] |= 1 << q;
            for (int k = 0; k < sets.length; k++) if (!can[k][sets[k]]) return;
            bestHands = dealt.clone();
            bestChanges = changes;
            return;
        }
        if (now.how[p] != 0) { dealt[p] = now.holder[p]; deal(p + 1, dealt, changes, can); return; }
        for (int k = 0; k < c.keepers.size(); k++) {
            dealt[p] = k;
            deal(p + 1, dealt, changes + (k == now.holder[p] ? 0 : 1), can);
        }
    }

    public int hands(int p) {
        if (p != NONE && noPledge(p)) return UNKNOWN;
        for (int k = 0; k < c.keepers.size(); k++) if (away(k)) return NOT;
        boolean[][] can = new boolean[c.keepers.size()][1 << c.pledges.size()];
        for (int set = 0; set < 1 << c.pledges.size(); set++) {
            List<Integer> all = new ArrayList<>();
            for (int q : which(0)) if ((set >> q & 1) == 1) all.add(q);
            if (bits(all) != set) continue;
            for (int k = 0; k < can.length; k++) can[k][set] = bestOrder(k, all, null) != null;
        }
        bestHands = null;
        deal(0, new int[c.pledges.size()], 0, can);
        if (bestHands == null) return NONE;
        return p == NONE ? bestChanges : bestHands[p];
    }

    private int dueOf(int k, int day) {
        int n = 0;
        for (int p : openOf(k)) if (due(now, p, day)) n++;
        return n;
    }

    public int calendar(int k, int day) { return noKeeper(k) ? UNKNOWN : day < 0 || day > 9999 ? OUTSIDE : dueOf(k, day); }

    public int busiest(int what) {
        if (what != 0 && what != 1) return OUTSIDE;
        if (c.towns == 0) return NOT;
        List<Integer> counts = new ArrayList<>();
        for (int d = 0; d < 200; d++) {
            int n = 0;
            for (int k = 0; k < c.keepers.size(); k++) n += dueOf(k, now.day + d);
            counts.add(n);
        }
        int most = Collections.max(counts);
        return what == 1 ? most : now.day + counts.indexOf(most);
    }

    public int lives(int p, int q) {
        if (noPledge(p)) return UNKNOWN;
        if (q < 0 || q > 1000) return OUTSIDE;
        if (now.how[p] != 0 || ripe(now, p) == NONE) return NONE;
        long v = 1000000000L;
        for (int d = ripe(now, p) - now.day; d > 0; d--) v = v * (1000 - q) / 1000;
        return (int) v;
    }

    public int share(int k) {
        if (noKeeper(k)) return UNKNOWN;
        int f = c.keepers.get(k).family, amount = now.fell[f], whole = 0;
        int[] sizes = new int[c.keepers.size()];
        List<Integer> kin = new ArrayList<>();
        for (int j = 0; j < sizes.length; j++) {
            if (c.keepers.get(j).family != f) continue;
            kin.add(j);
            for (int p : held(j)) sizes[j] += c.pledges.get(p).size;
            whole += sizes[j];
        }
        int[] got = new int[sizes.length];
        if (whole == 0) {
            got[kin.get(0)] = amount;
            return got[k];
        }
        int left = amount;
        int w = whole;
        for (int j : kin) { got[j] = amount * sizes[j] / whole; left -= got[j]; }
        kin.sort((a, b) -> amount * sizes[a] % w != amount * sizes[b] % w ? amount * sizes[b] % w - amount * sizes[a] % w : a - b);
        for (int j : kin) if (left > 0) { got[j]++; left--; }
        return got[k];
    }

    public int let(int k, int v, int what) {
        if (noKeeper(k)) return UNKNOWN;
        if (v < 0 || v > 99 || what < 0 || what > 2) return OUTSIDE;
        List<Integer> sets = new ArrayList<>();
        List<Integer> mine = held(k);
        for (int i = 0; i < 1 << mine.size(); i++) {
            int sum = 0, set = 0;
            for (int j = 0; j < mine.size(); j++) if ((i >> j & 1) == 1) { sum += c.pledges.get(mine.get(j)).size; set |= 1 << mine.get(j); }
            if (sum == v) sets.add(set);
        }
        if (what == 0) return sets.size();
        if (sets.isEmpty()) return what == 1 ? NONE : 0;
        return what == 1 ? Collections.min(sets) : sets.stream().reduce(-1, (a, b) -> a & b);
    }

    // ---- books, images

    public int write(int p, int day) {
        if (noPledge(p)) return UNKNOWN;
        if (day < 0 || day > 9999) return OUTSIDE;
        if (book.size() == 20) return FULL;
        book.add(new Line(p, day));
        return book.size();
    }

    public int judge() {
        Now n = new Now(now);
        int[] from = new int[c.keepers.size()];
        for (int k = 0; k < from.length; k++) from[k] = away(k) ? now.there[k] : now.day;
        int last = 0;
        for (int i = 0; i < book.size(); i++) {
            Line line = book.get(i);
            int k = n.holder[line.p];
            int town = c.pledges.get(line.p).town;
            int far = c.far(n.town[k], town);
            boolean fine = n.how[line.p] == 0 && due(n, line.p, line.day) && line.day >= last && far >= 0 && from[k] + far <= line.day;
            if (!fine) return i;
            n.how[line.p] = 1;
            n.ended[line.p] = line.day;
            n.town[k] = town;
            from[k] = line.day;
            last = line.day;
        }
        return NONE;
    }

    public int tear() {
        int had = book.size();
        book.clear();
        return had;
    }

    public int seed(int v) {
        if (v < 0) return OUTSIDE;
        int was = (int) seed;
        seed = v;
        return was;
    }

    public int image(int i) {
        if (i != 0 && i != 1) return UNKNOWN;
        images[i] = new Now(now);
        imageSeeds[i] = seed;
        past.clear();
        return 1;
    }

    public int goBack(int i) {
        if (i != 0 && i != 1) return UNKNOWN;
        if (images[i] == null) return NOT;
        now = new Now(images[i]);
        seed = imageSeeds[i];
        past.clear();
        return 1;
    }}
