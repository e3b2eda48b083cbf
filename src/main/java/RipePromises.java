/** Promises that may be kept only at their own age. README.md tells how to use it. */
public final class RipePromises {
    public static final int NONE = -1, UNKNOWN = -1000000001, OUTSIDE = -1000000002, NOT = -1000000003, FULL = -1000000004;

    private static final int LETTERS = 250, TOWNS = 5, ROADS = 8, KEEPERS = 3, FAMILIES = 3, PROMISES = 7;
    private static final int LINES = 20, UNDONE = 30, IMAGES = 2;
    private static final int OPEN = 0, KEPT = 1, FALLEN = 2, DOWN = 3;
    private static final int LATEST_START = 9000, LATEST_DAY = 9999, MOST_DAYS = 99, BUSY_DAYS = 200;
    private static final int OLDEST_TRIED = 30, BILLION = 1000000000;

    private final Land land;
    private final Land draft;
    private final Reader reader;
    private final Days days;
    private final Past past;
    private final Images images;
    private final Draws draws;
    private final Search search;
    private final Hands handing;
    private final Book book;

    public RipePromises() {
        land = new Land();
        draft = new Land();
        reader = new Reader();
        days = new Days(land);
        past = new Past();
        images = new Images();
        draws = new Draws();
        search = new Search(land, days);
        handing = new Hands(land, days, search);
        book = new Book(land);
    }

    // ---- the land

    public int feed(int letter) {
        if (letter < 0 || letter > 255) {
            return OUTSIDE;
        }
        return reader.isFull() ? FULL : reader.add(letter);
    }

    public int land() {
        // A text with a fault must leave the land as it is, so it is read into a draft first.
        int found = reader.readInto(draft);
        if (found == 0) {
            reader.readInto(land);
            days.begin();
            past.forget();
            images.forget();
            book.empty();
        }
        reader.empty();
        return found == 0 ? land.towns : -10 - found;
    }

    public int fault() {
        return reader.faultPlace;
    }

    public int told(int what) {
        switch (what) {
            case 0: return land.towns;
            case 1: return land.roads;
            case 2: return land.keepers;
            case 3: return land.promises;
            case 4: return reader.length;
            case 5: return days.today();
            case 6: return days.setOf(OPEN);
            case 7: return days.setOf(KEPT);
            case 8: return days.setOf(FALLEN);
            case 9: return days.setOf(DOWN);
            case 10: return book.lines;
            case 11: return past.count;
            case 12: return land.isWinter(days.today()) ? 1 : 0;
            default: return OUTSIDE;
        }
    }

    public int far(int from, int to) {
        if (!land.hasTown(from) || !land.hasTown(to)) {
            return UNKNOWN;
        }
        return land.distance(from, to);
    }

    public int keeper(int k, int what) {
        if (!land.hasKeeper(k)) {
            return UNKNOWN;
        }
        switch (what) {
            case 0: return days.townOf(k);
            case 1: return at(land.family, k);
            case 2: return days.thereOn(k);
            case 3: return days.heldBy(k);
            default: return OUTSIDE;
        }
    }

    public int promise(int p, int what) {
        if (!land.hasPromise(p)) {
            return UNKNOWN;
        }
        switch (what) {
            case 0: return days.holderOf(p);
            case 1: return at(land.place, p);
            case 2: return at(land.age, p);
            case 3: return at(land.slack, p);
            case 4: return at(land.size, p);
            case 5: return at(land.graft, p);
            case 6: return days.how(p);
            case 7: return days.ripeOn(p);
            case 8: return days.endedOn(p);
            default: return OUTSIDE;
        }
    }

    public int fell(int f) {
        return f < 0 || f >= FAMILIES ? UNKNOWN : days.fellOn(f);
    }

    // ---- days

    public int go(int k, int town) {
        if (!land.hasKeeper(k) || !land.hasTown(town)) {
            return UNKNOWN;
        }
        return days.depart(k, town) ? days.thereOn(k) : NOT;
    }

    public int day(int n) {
        int refusal = refusalOfDays(n);
        if (refusal != 0) {
            return refusal;
        }
        for (int i = 0; i < n; i++) {
            endDay();
        }
        return days.today();
    }

    public int keep(int p) {
        if (!land.hasPromise(p)) {
            return UNKNOWN;
        }
        if (!days.canKeep(p)) {
            return NOT;
        }
        days.end(p, KEPT, days.today());
        return at(land.size, p);
    }

    public int takeDown(int p) {
        if (!land.hasPromise(p)) {
            return UNKNOWN;
        }
        if (!days.isOpen(p) || days.isRipe(p)) {
            return NOT;
        }
        int half = at(land.size, p) / 2;
        days.lose(p, DOWN, half);
        return half;
    }

    public int swap(int p, int q) {
        if (!land.hasPromise(p) || !land.hasPromise(q) || p == q) {
            return UNKNOWN;
        }
        if (!days.isOpen(p) || !days.isOpen(q) || at(land.size, p) != at(land.size, q)) {
            return NOT;
        }
        days.exchange(p, q);
        return 1;
    }

    public int drift(int n) {
        int refusal = refusalOfDays(n);
        if (refusal != 0) {
            return refusal;
        }
        for (int i = 0; i < n; i++) {
            for (int k = 0; k < land.keepers; k++) {
                drawFor(k);
            }
            endDay();
        }
        return days.today();
    }

    public int undo(int n) {
        if (n < 1 || n > UNDONE) {
            return OUTSIDE;
        }
        return past.takeBack(n, days) ? days.today() : NOT;
    }

    // ---- tried

    public int plan(int k, int i) {
        int refusal = refusalOfTrying(k);
        if (refusal != 0) {
            return refusal;
        }
        if (!search.canKeepAll(k, days.openOf(k), false)) {
            return NONE;
        }
        return i == NONE ? search.bestTravel : search.bestAt(i);
    }

    public int clash(int k, int what) {
        if (!land.hasKeeper(k)) {
            return UNKNOWN;
        }
        if (what < 0 || what > 1) {
            return OUTSIDE;
        }
        if (days.onTheWay(k)) {
            return NOT;
        }
        int found = search.firstClash(k);
        if (found == NONE) {
            return NONE;
        }
        return what == 0 ? found / PROMISES : found % PROMISES;
    }

    public int still(int k, int town, int s) {
        if (!land.hasKeeper(k) || !land.hasTown(town)) {
            return UNKNOWN;
        }
        if (s < 0 || s > 9) {
            return OUTSIDE;
        }
        if (days.onTheWay(k)) {
            return NOT;
        }
        int ages = 0;
        for (int years = 1; years <= OLDEST_TRIED; years++) {
            search.tryOne(town, land.ripeDay(days.today(), years), s);
            if (search.canKeepAll(k, days.openOf(k) | Search.TRIED, true)) {
                ages |= 1 << years;
            }
        }
        return ages;
    }

    public int hands(int p) {
        if (p != NONE && !land.hasPromise(p)) {
            return UNKNOWN;
        }
        for (int k = 0; k < land.keepers; k++) {
            if (days.onTheWay(k)) {
                return NOT;
            }
        }
        handing.fillFits();
        int fewest = handing.fewest();
        if (fewest == NONE || p == NONE) {
            return fewest;
        }
        return at(handing.best, p);
    }

    public int calendar(int k, int day) {
        if (!land.hasKeeper(k)) {
            return UNKNOWN;
        }
        return day < 0 || day > LATEST_DAY ? OUTSIDE : days.dueOn(k, day);
    }

    public int busiest(int what) {
        if (what < 0 || what > 1) {
            return OUTSIDE;
        }
        if (land.towns == 0) {
            return NOT;
        }
        int most = 0;
        int first = days.today();
        for (int i = 0; i < BUSY_DAYS; i++) {
            int due = dueOfAll(days.today() + i);
            if (due > most) {
                most = due;
                first = days.today() + i;
            }
        }
        return what == 0 ? first : most;
    }

    public int lives(int p, int q) {
        if (!land.hasPromise(p)) {
            return UNKNOWN;
        }
        if (q < 0 || q > 1000) {
            return OUTSIDE;
        }
        int ripe = days.ripeOn(p);
        if (!days.isOpen(p) || ripe == NONE) {
            return NONE;
        }
        long odds = BILLION;
        for (int day = days.today(); day < ripe; day++) {
            odds = odds * (1000 - q) / 1000;
        }
        return (int) odds;
    }

    public int share(int k) {
        if (!land.hasKeeper(k)) {
            return UNKNOWN;
        }
        int family = at(land.family, k);
        int amount = days.fellOn(family);
        int whole = 0;
        for (int j = 0; j < land.keepers; j++) {
            whole += at(land.family, j) == family ? days.sizesOf(j) : 0;
        }
        if (whole <= 0) {
            return firstOfFamily(family) == k ? amount : 0;
        }
        int left = amount;
        int ahead = 0;
        int rest = amount * days.sizesOf(k) % whole;
        for (int j = 0; j < land.keepers; j++) {
            if (at(land.family, j) == family) {
                left -= amount * days.sizesOf(j) / whole;
                int other = amount * days.sizesOf(j) % whole;
                ahead += other > rest || other == rest && j < k ? 1 : 0;
            }
        }
        return amount * days.sizesOf(k) / whole + (ahead < left ? 1 : 0);
    }

    public int let(int k, int v, int what) {
        if (!land.hasKeeper(k)) {
            return UNKNOWN;
        }
        if (v < 0 || v > 99 || what < 0 || what > 2) {
            return OUTSIDE;
        }
        int held = days.heldBy(k);
        int count = 0;
        int least = NONE;
        int sure = held;
        for (int set = 0; set < 1 << PROMISES; set++) {
            if ((set & ~held) == 0 && land.sizesIn(set) == v) {
                least = count == 0 ? set : least;
                sure &= set;
                count++;
            }
        }
        if (what == 0) {
            return count;
        }
        return what == 1 ? least : count == 0 ? 0 : sure;
    }

    // ---- books, images

    public int write(int p, int day) {
        if (!land.hasPromise(p)) {
            return UNKNOWN;
        }
        if (day < 0 || day > LATEST_DAY) {
            return OUTSIDE;
        }
        return book.lines >= LINES ? FULL : book.add(p, day);
    }

    public int judge() {
        return book.firstWrong(days);
    }

    public int tear() {
        int had = book.lines;
        book.empty();
        return had;
    }

    public int seed(int v) {
        if (v < 0) {
            return OUTSIDE;
        }
        int was = draws.current;
        draws.current = v;
        return was;
    }

    public int image(int i) {
        if (i < 0 || i >= IMAGES) {
            return UNKNOWN;
        }
        images.take(i, days, draws);
        past.forget();
        return 1;
    }

    public int goBack(int i) {
        if (i < 0 || i >= IMAGES) {
            return UNKNOWN;
        }
        if (!images.giveBack(i, days, draws)) {
            return NOT;
        }
        past.forget();
        return 1;
    }

    // ---- what several calls share

    private int refusalOfDays(int n) {
        if (n < 1 || n > MOST_DAYS) {
            return OUTSIDE;
        }
        if (land.towns == 0) {
            return NOT;
        }
        return days.today() > LATEST_START ? FULL : 0;
    }

    private int refusalOfTrying(int k) {
        if (!land.hasKeeper(k)) {
            return UNKNOWN;
        }
        return days.onTheWay(k) ? NOT : 0;
    }

    private void endDay() {
        past.add(days);
        days.pass();
    }

    private void drawFor(int k) {
        if (days.onTheWay(k)) {
            return;
        }
        for (int p = 0; p < land.promises; p++) {
            if (days.holderOf(p) == k && days.canKeep(p)) {
                days.end(p, KEPT, days.today());
            }
        }
        int drawn = draws.draw(2 * land.towns);
        if (land.hasTown(drawn)) {
            days.depart(k, drawn);
        }
    }

    private int dueOfAll(int day) {
        int due = 0;
        for (int k = 0; k < land.keepers; k++) {
            due += days.dueOn(k, day);
        }
        return due;
    }

    private int firstOfFamily(int family) {
        for (int k = 0; k < land.keepers; k++) {
            if (at(land.family, k) == family) {
                return k;
            }
        }
        return NONE;
    }

    private static int at(int[] row, int i) {
        return row == null || i < 0 || i >= row.length ? 0 : row[i];
    }

    private static void put(int[] row, int i, int value) {
        if (row != null && i >= 0 && i < row.length) {
            row[i] = value;
        }
    }

    private static int[] rowAt(int[][] rows, int i) {
        return rows == null || i < 0 || i >= rows.length ? null : rows[i];
    }

    private static void copy(int[] from, int[] to) {
        if (from == null || to == null) {
            return;
        }
        for (int i = 0; i < from.length && i < to.length; i++) {
            to[i] = from[i];
        }
    }

    private static boolean has(int set, int i) {
        return i >= 0 && i < 31 && (set >> i & 1) != 0;
    }

    /** What a text tells: it stays as it is until the next one. */
    private static final class Land {
        private int towns, roads, keepers, promises;
        private int winterFrom, winterLong, winterOf;
        private final int[] start = new int[KEEPERS];
        private final int[] family = new int[KEEPERS];
        private final int[] holder = new int[PROMISES];
        private final int[] place = new int[PROMISES];
        private final int[] age = new int[PROMISES];
        private final int[] slack = new int[PROMISES];
        private final int[] size = new int[PROMISES];
        private final int[] graft = new int[PROMISES];
        private final int[] ways = new int[TOWNS * TOWNS];

        private void clear() {
            towns = 0;
            roads = 0;
            keepers = 0;
            promises = 0;
            winterFrom = 0;
            winterLong = 0;
            winterOf = 0;
            for (int i = 0; i < ways.length; i++) {
                ways[i] = i / TOWNS == i % TOWNS ? 0 : NONE;
            }
        }

        private void addRoad(int a, int b, int far) {
            roads++;
            shorten(a, b, far);
            shorten(b, a, far);
        }

        private void shorten(int a, int b, int far) {
            int known = at(ways, a * TOWNS + b);
            if (known == NONE || far < known) {
                put(ways, a * TOWNS + b, far);
            }
        }

        private void joinRoads() {
            for (int by = 0; by < TOWNS; by++) {
                for (int a = 0; a < TOWNS; a++) {
                    for (int b = 0; b < TOWNS; b++) {
                        int first = at(ways, a * TOWNS + by);
                        int second = at(ways, by * TOWNS + b);
                        if (first != NONE && second != NONE) {
                            shorten(a, b, first + second);
                        }
                    }
                }
            }
        }

        private boolean hasTown(int town) {
            return town >= 0 && town < towns;
        }

        private boolean hasKeeper(int k) {
            return k >= 0 && k < keepers;
        }

        private boolean hasPromise(int p) {
            return p >= 0 && p < promises;
        }

        private int distance(int from, int to) {
            return hasTown(from) && hasTown(to) ? at(ways, from * TOWNS + to) : NONE;
        }

        private boolean isWinter(int day) {
            return winterOf > 0 && Math.floorMod(day - winterFrom, winterOf) < winterLong;
        }

        /** Counts whole rounds of winter at once, since a search asks this very often. */
        private int ripeDay(int given, int years) {
            int free = winterOf - winterLong;
            if (winterOf <= 0 || free <= 0) {
                return given + years;
            }
            int offset = Math.floorMod(given - winterFrom, winterOf);
            int first = Math.max(offset, winterLong);
            int start = given + first - offset;
            int inThisRound = winterOf - first;
            if (years <= inThisRound) {
                return start + years;
            }
            int beyond = years - inThisRound - 1;
            return start + inThisRound + beyond / free * winterOf + winterLong + beyond % free + 1;
        }

        private int sizesIn(int set) {
            int sum = 0;
            for (int p = 0; p < promises; p++) {
                sum += has(set, p) ? at(size, p) : 0;
            }
            return sum;
        }
    }

    /** The text, and the reading of it up to its first fault. */
    private static final class Reader {
        private static final int CANNOT_STAND = 1, BAD_NUMBER = 2, TOO_MANY = 3, UNFIT = 4, BLANK = 32, UNGRAFTED = 9;

        private final int[] letters = new int[LETTERS];
        private int length, place, numberPlace;
        private int fault, faultPlace = NONE;

        private boolean isFull() {
            return length >= LETTERS;
        }

        private int add(int letter) {
            put(letters, length, letter);
            length++;
            return length;
        }

        private void empty() {
            length = 0;
        }

        private int readInto(Land into) {
            place = 0;
            fault = 0;
            faultPlace = NONE;
            into.clear();
            skipBlanks();
            for (int i = 0; i < LETTERS && fault == 0 && place < length; i++) {
                readClause(into);
                skipBlanks();
            }
            into.joinRoads();
            return fault;
        }

        private void readClause(Land into) {
            int word = at(letters, place);
            if (into.towns == 0 && word != 't') {
                blame(CANNOT_STAND, place);
                return;
            }
            if (isOneTooMany(word, into)) {
                blame(TOO_MANY, place);
                return;
            }
            switch (word) {
                case 't': readTowns(into); break;
                case 'r': readRoad(into); break;
                case 'k': readKeeper(into); break;
                case 'p': readPromise(into); break;
                case 'w': readWinter(into); break;
                default: blame(CANNOT_STAND, place);
            }
        }

        private boolean isOneTooMany(int word, Land into) {
            switch (word) {
                case 't': return into.towns > 0;
                case 'r': return into.roads >= ROADS;
                case 'k': return into.keepers >= KEEPERS;
                case 'p': return into.promises >= PROMISES;
                case 'w': return into.winterOf > 0;
                default: return false;
            }
        }

        private void readTowns(Land into) {
            place++;
            int towns = number(1, TOWNS);
            if (isEnd()) {
                into.towns = towns;
            }
        }

        private void readRoad(Land into) {
            place++;
            int a = number(0, into.towns - 1);
            int b = number(0, into.towns - 1);
            if (a == b) {
                blame(UNFIT, numberPlace);
            }
            int days = number(1, 9);
            if (isEnd()) {
                into.addRoad(a, b, days);
            }
        }

        private void readKeeper(Land into) {
            place++;
            int town = number(0, into.towns - 1);
            int family = number(0, FAMILIES - 1);
            if (isEnd()) {
                put(into.start, into.keepers, town);
                put(into.family, into.keepers, family);
                into.keepers++;
            }
        }

        private void readPromise(Land into) {
            place++;
            int keeper = number(0, into.keepers - 1);
            int town = number(0, into.towns - 1);
            int age = number(1, 60);
            int slack = number(0, 9);
            int size = number(1, 9);
            int graft = number(0, UNGRAFTED);
            if (graft != UNGRAFTED && graft >= into.promises) {
                blame(BAD_NUMBER, numberPlace);
            }
            if (isEnd()) {
                int p = into.promises;
                put(into.holder, p, keeper);
                put(into.place, p, town);
                put(into.age, p, age);
                put(into.slack, p, slack);
                put(into.size, p, size);
                put(into.graft, p, graft == UNGRAFTED ? NONE : graft);
                into.promises++;
            }
        }

        private void readWinter(Land into) {
            place++;
            int from = number(0, 98);
            int lasts = number(0, 98);
            int round = number(2, 99);
            if (lasts >= round) {
                blame(UNFIT, numberPlace);
            }
            if (isEnd()) {
                into.winterFrom = from;
                into.winterLong = lasts;
                into.winterOf = round;
            }
        }

        private int number(int low, int high) {
            if (fault != 0) {
                return NONE;
            }
            skipBlanks();
            numberPlace = place;
            int value = 0;
            while (place < length && isFigure(at(letters, place))) {
                value = Math.min(value, 1000) * 10 + at(letters, place) - '0';
                place++;
            }
            if (place == numberPlace) {
                blame(CANNOT_STAND, numberPlace);
            } else if (place - numberPlace > 3 || value < low || value > high) {
                blame(BAD_NUMBER, numberPlace);
            }
            return value;
        }

        private boolean isEnd() {
            if (fault != 0) {
                return false;
            }
            skipBlanks();
            if (place >= length || at(letters, place) != ';') {
                blame(CANNOT_STAND, place);
                return false;
            }
            place++;
            return true;
        }

        private void skipBlanks() {
            while (place < length && at(letters, place) == BLANK) {
                place++;
            }
        }

        private static boolean isFigure(int letter) {
            return letter >= '0' && letter <= '9';
        }

        /** The first fault stays: whatever is found behind it does not count. */
        private void blame(int kind, int where) {
            if (fault == 0) {
                fault = kind;
                faultPlace = where;
            }
        }
    }

    /** All that days change, in one row of numbers, so that it is kept and taken back whole. */
    private static final class Days {
        private static final int TODAY = 0, HOW = 1, ENDED = HOW + PROMISES, HOLDER = ENDED + PROMISES;
        private static final int TOWN = HOLDER + PROMISES, THERE = TOWN + KEEPERS, FELL = THERE + KEEPERS;
        private static final int LENGTH = FELL + FAMILIES;

        private final Land land;
        private final int[] row = new int[LENGTH];

        private Days(Land land) {
            this.land = land;
        }

        private void begin() {
            for (int i = 0; i < row.length; i++) {
                row[i] = 0;
            }
            for (int p = 0; p < PROMISES; p++) {
                put(row, ENDED + p, NONE);
                put(row, HOLDER + p, at(land.holder, p));
            }
            for (int k = 0; k < KEEPERS; k++) {
                put(row, TOWN + k, at(land.start, k));
            }
        }

        private int today() {
            return at(row, TODAY);
        }

        private int how(int p) {
            return at(row, HOW + p);
        }

        private boolean isOpen(int p) {
            return land.hasPromise(p) && how(p) == OPEN;
        }

        private int endedOn(int p) {
            return at(row, ENDED + p);
        }

        private int holderOf(int p) {
            return at(row, HOLDER + p);
        }

        private int townOf(int k) {
            return at(row, TOWN + k);
        }

        private int thereOn(int k) {
            return at(row, THERE + k);
        }

        private boolean onTheWay(int k) {
            return thereOn(k) > today();
        }

        private int fellOn(int family) {
            return at(row, FELL + family);
        }

        private int setOf(int how) {
            int set = 0;
            for (int p = 0; p < land.promises; p++) {
                set |= how(p) == how ? 1 << p : 0;
            }
            return set;
        }

        private int heldBy(int k) {
            int set = 0;
            for (int p = 0; p < land.promises; p++) {
                set |= holderOf(p) == k ? 1 << p : 0;
            }
            return set;
        }

        private int openOf(int k) {
            return heldBy(k) & setOf(OPEN);
        }

        private int sizesOf(int k) {
            return land.sizesIn(heldBy(k));
        }

        private int givenOn(int p) {
            int older = at(land.graft, p);
            if (older == NONE) {
                return 0;
            }
            return at(row, HOW + older) == KEPT ? at(row, ENDED + older) : NONE;
        }

        private int ripeOn(int p) {
            int given = givenOn(p);
            return given == NONE ? NONE : land.ripeDay(given, at(land.age, p));
        }

        private boolean isRipe(int p) {
            int ripe = ripeOn(p);
            return ripe != NONE && today() >= ripe;
        }

        private boolean mayBeKeptOn(int p, int day) {
            int ripe = ripeOn(p);
            return ripe != NONE && day >= ripe && day <= ripe + at(land.slack, p);
        }

        private boolean canKeep(int p) {
            int k = holderOf(p);
            return isOpen(p) && townOf(k) == at(land.place, p) && !onTheWay(k) && mayBeKeptOn(p, today());
        }

        private int dueOn(int k, int day) {
            int due = 0;
            for (int p = 0; p < land.promises; p++) {
                due += isOpen(p) && holderOf(p) == k && mayBeKeptOn(p, day) ? 1 : 0;
            }
            return due;
        }

        private void end(int p, int how, int day) {
            put(row, HOW + p, how);
            put(row, ENDED + p, day);
        }

        private void lose(int p, int how, int falls) {
            int place = FELL + at(land.family, holderOf(p));
            put(row, place, at(row, place) + falls);
            end(p, how, today());
            // What is grafted on one was told behind it, so one rising round meets whole chains.
            for (int younger = p + 1; younger < land.promises; younger++) {
                int older = at(land.graft, younger);
                if (isOpen(younger) && older >= p && (how(older) == FALLEN || how(older) == DOWN)) {
                    end(younger, DOWN, today());
                }
            }
        }

        private void exchange(int p, int q) {
            int k = holderOf(p);
            put(row, HOLDER + p, holderOf(q));
            put(row, HOLDER + q, k);
        }

        private boolean depart(int k, int town) {
            int far = land.distance(townOf(k), town);
            if (onTheWay(k) || townOf(k) == town || far == NONE) {
                return false;
            }
            sendTo(k, town, today() + far);
            return true;
        }

        private void sendTo(int k, int town, int day) {
            put(row, TOWN + k, town);
            put(row, THERE + k, day);
        }

        private void pass() {
            for (int p = 0; p < land.promises; p++) {
                int ripe = ripeOn(p);
                if (isOpen(p) && ripe != NONE && today() >= ripe + at(land.slack, p)) {
                    lose(p, FALLEN, at(land.size, p));
                }
            }
            put(row, TODAY, today() + 1);
        }
    }

    /** The latest days as they were before they passed, in rows that are used round and round. */
    private static final class Past {
        private final int[][] rows = new int[UNDONE][Days.LENGTH];
        private int next, count;

        private void forget() {
            count = 0;
        }

        private void add(Days days) {
            copy(days.row, rowAt(rows, next));
            next = (next + 1) % UNDONE;
            count = Math.min(count + 1, UNDONE);
        }

        private boolean takeBack(int n, Days days) {
            if (n < 1 || n > count) {
                return false;
            }
            next = Math.floorMod(next - n, UNDONE);
            count -= n;
            copy(rowAt(rows, next), days.row);
            return true;
        }
    }

    private static final class Images {
        private final int[][] rows = new int[IMAGES][Days.LENGTH];
        private final int[] seeds = new int[IMAGES];
        private int kept;

        private void forget() {
            kept = 0;
        }

        private void take(int i, Days days, Draws draws) {
            copy(days.row, rowAt(rows, i));
            put(seeds, i, draws.current);
            kept |= 1 << i;
        }

        private boolean giveBack(int i, Days days, Draws draws) {
            if (!has(kept, i)) {
                return false;
            }
            copy(rowAt(rows, i), days.row);
            draws.current = at(seeds, i);
            return true;
        }
    }

    private static final class Draws {
        private int current;

        private int draw(int n) {
            current = (int) (current * 1103515245L + 12345L & 2147483647L);
            return n <= 0 ? 0 : current / 65536 % n;
        }
    }

    /** Tries all orders in which one keeper could keep a set of promises, from now. */
    private static final class Search {
        private static final int ITEMS = PROMISES + 1, TRIED = 1 << PROMISES;

        private final Land land;
        private final Days days;
        private final int[] place = new int[ITEMS];
        private final int[] slack = new int[ITEMS];
        private final int[] ripe = new int[ITEMS];
        private final int[] order = new int[ITEMS];
        private final int[] best = new int[ITEMS];
        private int bestLength, bestTravel;
        private boolean anyWillDo;

        private Search(Land land, Days days) {
            this.land = land;
            this.days = days;
        }

        private void tryOne(int town, int ripeOn, int slackDays) {
            put(place, PROMISES, town);
            put(ripe, PROMISES, ripeOn);
            put(slack, PROMISES, slackDays);
        }

        private int bestAt(int i) {
            return i < 0 || i >= bestLength ? NONE : at(best, i);
        }

        /** If any order will do, the search ends at the first; else the best is found. */
        private boolean canKeepAll(int k, int set, boolean any) {
            bestTravel = NONE;
            bestLength = 0;
            anyWillDo = any;
            if (prepare(set)) {
                extend(this, 0, days.townOf(k), days.today(), 0, set);
            }
            return bestTravel != NONE;
        }

        /** False if one of the set is grafted on an open one beside it: that one is never given here. */
        private boolean prepare(int set) {
            for (int p = 0; p < land.promises; p++) {
                if (has(set, p)) {
                    put(place, p, at(land.place, p));
                    put(slack, p, at(land.slack, p));
                    put(ripe, p, days.ripeOn(p));
                    if (at(ripe, p) == NONE && !has(set, at(land.graft, p))) {
                        return false;
                    }
                }
            }
            return true;
        }

        private static void extend(Search s, int depth, int from, int day, int travel, int left) {
            if (depth > ITEMS || s.cannotBeBetter(travel)) {
                return;
            }
            if (left == 0) {
                s.takeAsBest(depth, travel);
                return;
            }
            if (s.misses(from, day, left)) {
                return;
            }
            for (int p = 0; p < ITEMS; p++) {
                if (has(left, p) && at(s.ripe, p) != NONE) {
                    int town = at(s.place, p);
                    int far = s.land.distance(from, town);
                    int kept = Math.max(day + far, at(s.ripe, p));
                    int rest = left & ~(1 << p);
                    put(s.order, depth, p);
                    s.ripen(p, rest, kept);
                    extend(s, depth + 1, town, kept, travel + far, rest);
                    s.ripen(p, rest, NONE);
                }
            }
        }

        /** Like travel is no better: orders come rising, and the first of like ones is wanted. */
        private boolean cannotBeBetter(int travel) {
            return bestTravel != NONE && (anyWillDo || travel >= bestTravel);
        }

        private void takeAsBest(int length, int travel) {
            bestTravel = travel;
            bestLength = length;
            copy(order, best);
        }

        /** Is there one left that has no way or is late even if it is kept next? (FAR is never longer by a stop.) */
        private boolean misses(int from, int day, int left) {
            for (int p = 0; p < ITEMS; p++) {
                if (has(left, p)) {
                    int far = land.distance(from, at(place, p));
                    int last = at(ripe, p) + at(slack, p);
                    if (far == NONE || at(ripe, p) != NONE && day + far > last) {
                        return true;
                    }
                }
            }
            return false;
        }

        /** What of the rest is grafted on p is given on that day (NONE: not yet). */
        private void ripen(int p, int rest, int day) {
            for (int younger = p + 1; younger < land.promises; younger++) {
                if (has(rest, younger) && at(land.graft, younger) == p) {
                    put(ripe, younger, day == NONE ? NONE : land.ripeDay(day, at(land.age, younger)));
                }
            }
        }

        /** The pair as lesser times PROMISES and greater; NONE. */
        private int firstClash(int k) {
            int open = days.openOf(k);
            for (int p = 0; p < land.promises; p++) {
                for (int q = p + 1; q < land.promises; q++) {
                    if (has(open, p) && has(open, q) && !canKeepAll(k, withOlder(p, open) | withOlder(q, open), true)) {
                        return p * PROMISES + q;
                    }
                }
            }
            return NONE;
        }

        private int withOlder(int p, int open) {
            int set = 0;
            int one = p;
            for (int i = 0; i < PROMISES && one != NONE && has(open, one); i++) {
                set |= 1 << one;
                one = at(land.graft, one);
            }
            return set;
        }
    }

    /** All ways to give the open promises to keepers. */
    private static final class Hands {
        private final Land land;
        private final Days days;
        private final Search search;
        /** For each set of promises the keepers (bits) who could keep just these. */
        private final int[] fits = new int[1 << PROMISES];
        private final int[] sets = new int[KEEPERS];
        private final int[] giving = new int[PROMISES];
        private final int[] best = new int[PROMISES];

        private Hands(Land land, Days days, Search search) {
            this.land = land;
            this.days = days;
            this.search = search;
        }

        /** Asks what fillFits has filled. */
        private int fewest() {
            int ways = 1;
            for (int i = 0; i < Integer.bitCount(days.setOf(OPEN)); i++) {
                ways *= land.keepers;
            }
            int fewest = NONE;
            for (int way = 0; way < ways; way++) {
                int changes = giveBy(way);
                if ((fewest == NONE || changes < fewest) && allFit()) {
                    fewest = changes;
                    copy(giving, best);
                }
            }
            return fewest;
        }

        private void fillFits() {
            int open = days.setOf(OPEN);
            for (int set = 0; set < fits.length; set++) {
                int keepers = 0;
                for (int k = 0; k < land.keepers && (set & ~open) == 0; k++) {
                    keepers |= search.canKeepAll(k, set, true) ? 1 << k : 0;
                }
                fits[set] = keepers;
            }
        }

        /** The greatest promise takes the lowest figure of the way, so that ways rise as the document orders them. */
        private int giveBy(int way) {
            for (int k = 0; k < KEEPERS; k++) {
                put(sets, k, 0);
            }
            int changes = 0;
            int figures = way;
            for (int p = land.promises - 1; p >= 0; p--) {
                int k = days.holderOf(p);
                if (days.isOpen(p) && land.keepers > 0) {
                    k = figures % land.keepers;
                    figures /= land.keepers;
                    changes += k == days.holderOf(p) ? 0 : 1;
                    put(sets, k, at(sets, k) | 1 << p);
                }
                put(giving, p, k);
            }
            return changes;
        }

        private boolean allFit() {
            for (int k = 0; k < land.keepers; k++) {
                if (!has(at(fits, at(sets, k)), k)) {
                    return false;
                }
            }
            return true;
        }
    }

    /** Lines that tell which promise is kept on which day, and the judging of them. */
    private static final class Book {
        private final Land land;
        private final Days trial;
        private final int[] which = new int[LINES];
        private final int[] when = new int[LINES];
        private int lines;

        private Book(Land land) {
            this.land = land;
            this.trial = new Days(land);
        }

        private void empty() {
            lines = 0;
        }

        private int add(int p, int day) {
            put(which, lines, p);
            put(when, lines, day);
            lines++;
            return lines;
        }

        private int firstWrong(Days now) {
            copy(now.row, trial.row);
            int before = now.today();
            for (int i = 0; i < lines; i++) {
                int p = at(which, i);
                int day = at(when, i);
                if (day < before || !canBeKept(p, day)) {
                    return i;
                }
                trial.end(p, KEPT, day);
                trial.sendTo(trial.holderOf(p), at(land.place, p), day);
                before = day;
            }
            return NONE;
        }

        private boolean canBeKept(int p, int day) {
            int k = trial.holderOf(p);
            int far = land.distance(trial.townOf(k), at(land.place, p));
            int leaves = Math.max(trial.today(), trial.thereOn(k));
            return trial.isOpen(p) && trial.mayBeKeptOn(p, day) && far != NONE && leaves + far <= day;
        }
    }
}
