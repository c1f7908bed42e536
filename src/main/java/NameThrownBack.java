/**
 * Fishermen there throw back the name and keep the fish.
 *
 * What the calls answer is told by the numbered promises of the document; the capital words in the
 * comments here are the document's own.
 */
public final class NameThrownBack {
    public static final int NONE = -1, BAD = -2, STATE = -3, FULL = -4;
    public static final long NO = -4611686018427387904L;

    private static final int NOBODY = -5, NO_THING = -6, NO_SUCH = -7;
    private static final int MISSING = -11, OUTSIDE = -12, UNLIKE = -13, BELOW = -14;
    /** Every refusal is below 0, so that 0 says that nothing is refused. */
    private static final int FINE = 0;

    private static final int THINGS = 16, ALL = 65535;
    private static final int FISHERS = 6, MORES = 10;
    private static final int LAST_TIDE = 999, MOST_LUCK = 99, FIRST_LUCK = 50;
    private static final int TEXTS = 6, PARTS = 3, TAPE = 160;
    private static final int SHEETS = 4, CELLS = 40, NO_ROW = -1, BYTES = 0, SHORTS = 1, INTS = 2;

    private static final int FISHER = 0, UNCLE = 1, MASTER = 2, OLD = 3, GIRL = 4, MUTE = 5, KINDS = 6;

    private static final int LETS = 0, LUCKS = 1, TAKES = 2;

    // What a text is made into: numbers stand for themselves, what is below 0 is done. What is done
    // to two comes behind both, so that no call has to go down into an E again when it is asked.
    private static final int THING = -1, KNOWN = -2, KEPT = -3, TIDE = -4, LUCK = -5, MORE = -6;
    private static final int OR = -7, AND = -8, NOT = -9, LESS = -10, LIKE = -11, PLUS = -12,
            LESS_BY = -13, TIMES = -14, MINUS = -15;
    private static final int NAMES = 6;
    /** Each of at most 6 E that stand in one another leaves at most 5 numbers waiting. */
    private static final int WAITING = 40;

    private static final int MOST_OPEN = 5, MOST_LESSONS = 3, MOST_TIDES = 60;
    private static final int MOST_DRAWN = 60, ODDS_DRAWN = 20, MOST_SEEDS = 40, LAST_SEED = 99999;
    private static final long LOT_TIMES = 48271L, LOT_MODULO = 2147483647L;

    private final Texts texts;
    private final Reader reader;
    private final Coast now;
    /** What is only thought happens here; each call makes it like now first. */
    private final Coast thought;
    private final Coast kept;
    private boolean imaged;
    private final Sheet[] sheets;

    public NameThrownBack() {
        texts = new Texts();
        reader = new Reader();
        now = new Coast(texts);
        thought = new Coast(texts);
        kept = new Coast(texts);
        sheets = new Sheet[SHEETS];
        for (int s = 0; s < sheets.length; s++) {
            sheets[s] = new Sheet();
        }
    }

    // ---- the sea, the law, fishers

    public int count(int what) {
        switch (what) {
            case 0: return now.fishers;
            case 1: return Integer.bitCount(now.sea);
            case 2: return now.tide;
            case 3: return texts.many;
            case 4: return now.law;
            case 5: return reader.size;
            default: return BAD;
        }
    }

    public int shore(int what, int v) {
        int was = BAD;
        if (what == 0 && v >= 0 && v <= LAST_TIDE) {
            was = now.tide;
            now.tide = v;
        } else if (what == 1 && isSet(v)) {
            was = now.sea;
            now.sea = v;
        }
        return was;
    }

    public int feed(int n, int a, int b, int c, int d, int e) {
        if (n < 1 || n > 5 || !isByte(a) || !isByte(b) || !isByte(c) || !isByte(d) || !isByte(e)) {
            return BAD;
        }
        if (reader.size + n > TAPE) {
            return FULL;
        }
        reader.add(a);
        if (n > 1) {
            reader.add(b);
        }
        if (n > 2) {
            reader.add(c);
        }
        if (n > 3) {
            reader.add(d);
        }
        if (n > 4) {
            reader.add(e);
        }
        return reader.size;
    }

    public int text() {
        if (texts.many >= TEXTS) {
            return FULL;
        }
        int fault = reader.faultOf();
        reader.size = 0;
        if (fault >= 0) {
            return -100 - fault;
        }
        return texts.add(reader.code, reader.ends);
    }

    public int force(int t) {
        if (t < 0 || t >= texts.many) {
            return BAD;
        }
        int was = now.law;
        now.law = t;
        return was;
    }

    public int asks(int part, int p, int thing) {
        if (part < LETS || part > TAKES || !now.has(p) || !isThing(thing)) {
            return -1000;
        }
        return now.says(part, p, thing);
    }

    public int fisher(int kindMore, int known) {
        if (kindMore < 0 || kindMore >= KINDS * MORES || !isSet(known)) {
            return BAD;
        }
        if (now.fishers >= FISHERS) {
            return FULL;
        }
        return now.comes(kindMore / MORES, kindMore % MORES, known);
    }

    public int put(int p, int what, int v) {
        if (!now.has(p)) {
            return NOBODY;
        }
        if (what == 0 && isSet(v)) {
            return swap(now.known, p, v);
        }
        if (what == 1 && isSet(v)) {
            return swap(now.kept, p, v);
        }
        if (what == 2 && v >= 0 && v <= MOST_LUCK) {
            return swap(now.luck, p, v);
        }
        return NO_SUCH;
    }

    public int told(int p, int what) {
        if (!now.has(p)) {
            return NOBODY;
        }
        switch (what) {
            case 0: return at(now.known, p);
            case 1: return at(now.kept, p);
            case 2: return at(now.luck, p);
            case 3: return at(now.kind, p);
            case 4: return at(now.more, p);
            case 5: return now.nameless(p);
            case 6: return now.takesOf(p);
            default: return NO_SUCH;
        }
    }

    public int lands(int p, int thing, int what) {
        if (!now.has(p) || !isThing(thing)) {
            return -5000;
        }
        if (what == 0) {
            return now.letsGo(p, thing);
        }
        if (what == 1) {
            return now.lucksBy(p, thing);
        }
        return -7000;
    }

    // ---- landing, teaching, tides

    public int land(int p, int thing) {
        if (!now.has(p)) {
            return NOBODY;
        }
        if (!isThing(thing)) {
            return NO_THING;
        }
        return now.landing(p, thing);
    }

    public int teach(int a, int b) {
        if (!now.has(a) || !now.has(b) || a == b) {
            return NOBODY;
        }
        int names = now.learns(a, b);
        now.isTold(b, names);
        return names;
    }

    public int tide() {
        if (now.tide >= LAST_TIDE) {
            return STATE;
        }
        return now.washes();
    }

    public int talk(int some, int what) {
        if (some < 0 || some >= (1 << now.fishers) || what < 0 || what > 3) {
            return BAD;
        }
        int all = ALL;
        int any = 0;
        int several = 0;
        for (int p = 0; p < FISHERS; p++) {
            if (holds(some, p)) {
                int names = at(now.known, p);
                several |= any & names;
                any |= names;
                all &= names;
            }
        }
        switch (what) {
            case 0: return all;
            case 1: return any;
            case 2: return ALL & ~any;
            default: return any & ~several;
        }
    }

    // ---- seasons

    public int season(int s, int p, int what) {
        int refused = refusedSeason(s, p);
        if (refused != FINE) {
            return refused;
        }
        if (what < 0 || what > 4) {
            return NO_SUCH;
        }
        thought.become(now);
        int without = goes(thought, s, p);
        switch (what) {
            case 0: return Integer.bitCount(at(thought.known, p));
            case 1: return at(thought.luck, p);
            case 2: return thought.sea;
            case 3: return without;
            default: return thought.nameless(p);
        }
    }

    public int fish(int s, int p) {
        int refused = refusedSeason(s, p);
        if (refused != FINE) {
            return refused;
        }
        if (now.tide + sizeOf(s) > LAST_TIDE) {
            return STATE;
        }
        goes(now, s, p);
        return Integer.bitCount(at(now.known, p));
    }

    private int refusedRow(int s) {
        Sheet row = rowAt(s);
        if (row == null) {
            return BAD;
        }
        if (row.sort == NO_ROW) {
            return MISSING;
        }
        return row.tellsThings() ? FINE : BAD;
    }

    private int refusedSeason(int s, int p) {
        int refused = refusedRow(s);
        if (refused != FINE) {
            return refused;
        }
        return now.has(p) ? FINE : NOBODY;
    }

    /** By how many landings of the SEASON no NAME is let go. */
    private int goes(Coast coast, int s, int p) {
        Sheet row = rowAt(s);
        if (row == null || coast == null) {
            return 0;
        }
        int without = 0;
        for (int i = 0; i < row.size; i++) {
            if (coast.landing(p, at(row.cells, i)) < 0) {
                without++;
            }
            coast.washes();
        }
        return without;
    }

    // ---- what is best

    public int which(int p, int what) {
        if (!now.has(p)) {
            return NOBODY;
        }
        if (what != 0 && what != 1) {
            return NO_SUCH;
        }
        int best = -1;
        int most = at(now.luck, p);
        for (int thing = 0; thing < THINGS; thing++) {
            if (!holds(at(now.kept, p), thing)) {
                int luck = bounded(at(now.luck, p) + now.lucksBy(p, thing), 0, MOST_LUCK);
                if (best < 0 || luck > most) {
                    best = thing;
                    most = luck;
                }
            }
        }
        return what == 0 ? best : most;
    }

    public int taught(int p, int what) {
        if (!now.has(p)) {
            return NOBODY;
        }
        if (what != 0 && what != 1) {
            return NO_SUCH;
        }
        int best = -1;
        int most = 0;
        for (int a = 0; a < now.fishers; a++) {
            int many = a == p ? 0 : Integer.bitCount(now.learns(a, p));
            if (many > most) {
                best = a;
                most = many;
            }
        }
        return what == 0 ? best : most;
    }

    public int lessons(int p, int name, int what) {
        if (!now.has(p)) {
            return NOBODY;
        }
        if (!isThing(name) || (what != 0 && what != 1)) {
            return NO_SUCH;
        }
        if (holds(at(now.known, p), name)) {
            return 0;
        }
        thought.become(now);
        for (int few = 1; few <= MOST_LESSONS; few++) {
            int found = lessonsTo(thought, p, name, few);
            if (found > 0) {
                return what == 0 ? few : found;
            }
        }
        return -1;
    }

    /**
     * The first row of just so many LESSONS, as its number, or 0. Only called when fewer don't do:
     * so a LESSON by which nothing is learned can be left out, and the last one is of the NAME.
     */
    private static int lessonsTo(Coast coast, int p, int name, int few) {
        if (coast == null || few < 1 || few > MOST_LESSONS) {
            return 0;
        }
        for (int a = 0; a < coast.fishers; a++) {
            for (int b = 0; b < coast.fishers; b++) {
                int found = lessonsFrom(coast, 10 * a + b, p, name, few);
                if (found > 0) {
                    return found;
                }
            }
        }
        return 0;
    }

    /** The same of those rows whose first LESSON is told (10 times who teaches, and who learns). */
    private static int lessonsFrom(Coast coast, int first, int p, int name, int few) {
        int a = first / 10;
        int b = first % 10;
        if (coast == null || a == b || (few == 1 && (b != p || !holds(at(coast.known, a), name)))) {
            return 0;
        }
        int names = coast.learns(a, b);
        if (few == 1) {
            return holds(names, name) ? first + 1 : 0;
        }
        if (names == 0) {
            return 0;
        }
        int was = swap(coast.known, b, at(coast.known, b) | names);
        int rest = lessonsTo(coast, p, name, few - 1);
        set(coast.known, b, was);
        if (rest == 0) {
            return 0;
        }
        return (first + 1) * (few == 2 ? 100 : 10000) + rest;
    }

    public int when(int what) {
        if (what < -1 || what >= THINGS) {
            return BAD;
        }
        thought.become(now);
        for (int tides = 0; tides <= MOST_TIDES; tides++) {
            if (what < 0 ? thought.sea == 0 : holds(thought.knownToAny(), what)) {
                return tides;
            }
            thought.washes();
        }
        return -1;
    }

    public long share(int p, int part) {
        if (!now.has(p) || at(now.kept, p) == 0) {
            return NO;
        }
        int all = at(now.kept, p);
        return lowest(Integer.bitCount(all & at(now.known, p)), Integer.bitCount(all), part);
    }

    // ---- told seasons

    public int judge(int s, int told, int p) {
        int refused = refusedTold(s, told, p);
        if (refused != FINE) {
            return refused;
        }
        thought.become(now);
        return otherwise(s, told, p);
    }

    public int kinds(int s, int told, int p, int sort) {
        int refused = refusedTold(s, told, p);
        if (refused != FINE) {
            return refused;
        }
        if (sort != 0 && sort != 1) {
            return NO_SUCH;
        }
        int found = 0;
        int many = sort == 0 ? KINDS : MORES;
        for (int v = 0; v < many; v++) {
            thought.become(now);
            set(sort == 0 ? thought.kind : thought.more, p, v);
            if (otherwise(s, told, p) == -1) {
                found |= 1 << v;
            }
        }
        return found;
    }

    public int turned(int s, int told, int p) {
        int refused = refusedTold(s, told, p);
        if (refused != FINE) {
            return refused;
        }
        int found = 0;
        for (int name = 0; name < THINGS; name++) {
            thought.become(now);
            set(thought.known, p, at(now.known, p) ^ (1 << name));
            if (otherwise(s, told, p) == -1) {
                found |= 1 << name;
            }
        }
        return found;
    }

    public int lucks(int s, int told, int p, int what) {
        int refused = refusedTold(s, told, p);
        if (refused != FINE) {
            return refused;
        }
        if (what != 0 && what != 1) {
            return NO_SUCH;
        }
        int many = 0;
        int least = -1;
        for (int luck = 0; luck <= MOST_LUCK; luck++) {
            thought.become(now);
            set(thought.luck, p, luck);
            if (otherwise(s, told, p) == -1) {
                many++;
                least = least < 0 ? luck : least;
            }
        }
        return what == 0 ? many : least;
    }

    public int whose(int s, int told) {
        int refused = refusedTelling(s, told);
        if (refused != FINE) {
            return refused;
        }
        int found = 0;
        for (int p = 0; p < now.fishers; p++) {
            thought.become(now);
            if (otherwise(s, told, p) == -1) {
                found |= 1 << p;
            }
        }
        return found;
    }

    public int laws(int s, int told, int p) {
        int refused = refusedTold(s, told, p);
        if (refused != FINE) {
            return refused;
        }
        int found = 0;
        for (int t = 0; t < texts.many; t++) {
            thought.become(now);
            thought.law = t;
            if (otherwise(s, told, p) == -1) {
                found |= 1 << t;
            }
        }
        return found;
    }

    public int film(int s, int told, int p) {
        Sheet row = rowAt(s);
        Sheet lucks = rowAt(told);
        if (row == null || lucks == null || s == told) {
            return BAD;
        }
        int refused = refusedSeason(s, p);
        if (refused != FINE) {
            return refused;
        }
        lucks.becomes(BYTES, row.size);
        thought.become(now);
        for (int i = 0; i < row.size; i++) {
            thought.landing(p, at(row.cells, i));
            thought.washes();
            lucks.write(i, at(thought.luck, p));
        }
        return row.size;
    }

    private int refusedTelling(int s, int told) {
        Sheet lucks = rowAt(told);
        if (lucks == null) {
            return BAD;
        }
        int refused = refusedRow(s);
        if (refused != FINE) {
            return refused;
        }
        if (lucks.sort == NO_ROW) {
            return MISSING;
        }
        return lucks.size > sizeOf(s) ? BAD : FINE;
    }

    private int refusedTold(int s, int told, int p) {
        int refused = refusedTelling(s, told);
        if (refused != FINE) {
            return refused;
        }
        return now.has(p) ? FINE : NOBODY;
    }

    /** The first told LUCK that is otherwise in thought, which the caller has made ready; or -1. */
    private int otherwise(int s, int told, int p) {
        Sheet row = rowAt(s);
        Sheet lucks = rowAt(told);
        if (row == null || lucks == null) {
            return -1;
        }
        for (int i = 0; i < lucks.size; i++) {
            thought.landing(p, at(row.cells, i));
            thought.washes();
            if (at(thought.luck, p) != at(lucks.cells, i)) {
                return i;
            }
        }
        return -1;
    }

    // ---- seasons by lots

    public int drawn(int seed, int n, int what) {
        if (!isSeed(seed) || n < 0 || n > MOST_DRAWN || (what != 0 && what != 1)) {
            return BAD;
        }
        draws(seed, n);
        return what == 0 ? Integer.bitCount(thought.knownToAny()) : thought.sea;
    }

    public long odds(int seed, int seeds, int least, int part) {
        if (!isSeed(seed) || seeds < 1 || seeds > MOST_SEEDS || least < 0 || least > THINGS) {
            return NO;
        }
        int many = 0;
        for (int i = 0; i < seeds; i++) {
            draws(seed + i, ODDS_DRAWN);
            if (Integer.bitCount(thought.knownToAny()) >= least) {
                many++;
            }
        }
        return lowest(many, seeds, part);
    }

    public int image() {
        kept.become(now);
        imaged = true;
        return kept.fishers;
    }

    public int back() {
        if (!imaged) {
            return STATE;
        }
        now.become(kept);
        return now.fishers;
    }

    private void draws(int seed, int n) {
        thought.become(now);
        long lot = seed + 1L;
        for (int i = 1; i <= n; i++) {
            lot = lot * LOT_TIMES % LOT_MODULO;
            int p = (int) (lot % FISHERS);
            lot = lot * LOT_TIMES % LOT_MODULO;
            int thing = (int) (lot % THINGS);
            if (thought.has(p)) {
                thought.landing(p, thing);
            }
            if (i % 3 == 0) {
                thought.washes();
            }
        }
    }

    // ---- the host

    public int sheet(int s, int sort, int n) {
        Sheet row = rowAt(s);
        if (row == null || sort < NO_ROW || sort > INTS) {
            return BAD;
        }
        if (sort == NO_ROW) {
            row.becomes(NO_ROW, 0);
            return 1;
        }
        if (n > CELLS) {
            return BAD;
        }
        if (n < 0) {
            return BELOW;
        }
        row.becomes(sort, n);
        return 1;
    }

    public int cell(int s, int i, int v) {
        Sheet row = rowAt(s);
        if (row == null) {
            return BAD;
        }
        if (row.sort == NO_ROW) {
            return MISSING;
        }
        if (i < 0 || i >= row.size) {
            return OUTSIDE;
        }
        row.write(i, v);
        return 1;
    }

    public int copy(int s, int i, int other, int j, int n) {
        Sheet from = rowAt(s);
        Sheet to = rowAt(other);
        if (from == null || to == null) {
            return BAD;
        }
        if (from.sort == NO_ROW || to.sort == NO_ROW) {
            return MISSING;
        }
        if (from.sort != to.sort) {
            return UNLIKE;
        }
        if (i < 0 || j < 0 || n < 0 || n > from.size - i || n > to.size - j) {
            return OUTSIDE;
        }
        // Within one row the numbers that are still to be read must not be written over.
        for (int k = 0; k < n; k++) {
            int step = i < j ? n - 1 - k : k;
            set(to.cells, j + step, at(from.cells, i + step));
        }
        return n;
    }

    public int fishersBy(int s, int sort, int from, int n) {
        Sheet row = rowAt(s);
        if (row == null || sort < BYTES || sort > INTS || n < 0 || n > FISHERS) {
            return BAD;
        }
        if (row.sort == NO_ROW) {
            return MISSING;
        }
        if (row.sort != sort) {
            return UNLIKE;
        }
        int came = 0;
        int place = from;
        for (int k = 0; k < n; k++) {
            if (place < 0 || place >= row.size - 1) {
                return OUTSIDE;
            }
            if (fisher(at(row.cells, place), at(row.cells, place + 1)) >= 0) {
                came++;
            }
            place += 2;
        }
        return came;
    }

    public int taken(int i, int kind) {
        if (kind < 0 || kind > KINDS) {
            return BAD;
        }
        if (i < 0 || i >= 2 * FISHERS) {
            return OUTSIDE;
        }
        int p = i % FISHERS;
        if (!now.has(p)) {
            return MISSING;
        }
        if (i >= FISHERS) {
            return kind == KINDS ? at(now.known, p) : UNLIKE;
        }
        return isOne(at(now.kind, p), kind) ? p : UNLIKE;
    }

    private Sheet rowAt(int s) {
        if (s < 0 || s >= sheets.length) {
            return null;
        }
        return sheets[s];
    }

    private int sizeOf(int s) {
        Sheet row = rowAt(s);
        return row == null ? 0 : row.size;
    }

    /** Whether who is of a KIND is one of another KIND, too. */
    private static boolean isOne(int kind, int other) {
        switch (kind) {
            case OLD: return other == OLD || other == UNCLE || other == FISHER;
            case GIRL: return other == GIRL || other == MASTER || other == FISHER;
            default: return other == kind || other == FISHER;
        }
    }

    // ---- numbers and bits

    private static int at(int[] row, int i) {
        if (row == null || i < 0 || i >= row.length) {
            return 0;
        }
        return row[i];
    }

    private static void set(int[] row, int i, int v) {
        if (row != null && i >= 0 && i < row.length) {
            row[i] = v;
        }
    }

    private static int swap(int[] row, int i, int v) {
        int was = at(row, i);
        set(row, i, v);
        return was;
    }

    private static boolean isThing(int v) {
        return v >= 0 && v < THINGS;
    }

    private static boolean isSet(int v) {
        return v >= 0 && v <= ALL;
    }

    private static boolean isByte(int v) {
        return v >= 0 && v <= 255;
    }

    private static boolean isSeed(int v) {
        return v >= 0 && v <= LAST_SEED;
    }

    private static boolean holds(int bits, int i) {
        return i >= 0 && i < THINGS && (bits >> i & 1) == 1;
    }

    private static int bounded(int v, int low, int high) {
        return v < low ? low : v > high ? high : v;
    }

    /** The one of a set that is numbered n, from 0 on; -1: it has not so many. */
    private static int numbered(int bits, int n) {
        int left = n;
        for (int i = 0; i < THINGS; i++) {
            if (holds(bits, i)) {
                if (left == 0) {
                    return i;
                }
                left--;
            }
        }
        return -1;
    }

    /** The least ones of a set, so many of them. */
    private static int leastOf(int bits, int many) {
        int found = 0;
        int left = many;
        for (int i = 0; i < THINGS && left > 0; i++) {
            if (holds(bits, i)) {
                found |= 1 << i;
                left--;
            }
        }
        return found;
    }

    /** What stands above (part 0), below (1) the line of above / below in lowest terms. */
    private static long lowest(int above, int below, int part) {
        int divides = common(above, below);
        if (divides == 0 || (part != 0 && part != 1)) {
            return NO;
        }
        return part == 0 ? above / divides : below / divides;
    }

    private static int common(int a, int b) {
        int more = a;
        int less = b;
        for (int i = 0; i < 64 && less != 0; i++) {
            int rest = more % less;
            more = less;
            less = rest;
        }
        return more;
    }

    /** A row of numbers, or none; the numbers stand in it as its sort leaves them. */
    private static final class Sheet {
        int sort = NO_ROW;
        int size;
        final int[] cells = new int[CELLS];

        void becomes(int newSort, int newSize) {
            sort = newSort;
            size = newSize;
            for (int i = 0; i < CELLS; i++) {
                set(cells, i, 0);
            }
        }

        void write(int i, int v) {
            set(cells, i, sort == BYTES ? (byte) v : sort == SHORTS ? (short) v : v);
        }

        boolean tellsThings() {
            for (int i = 0; i < size; i++) {
                if (!isThing(at(cells, i))) {
                    return false;
                }
            }
            return true;
        }
    }

    /** The TEXTS that have been read, each as one row in which its three parts follow each other. */
    private static final class Texts {
        int many;
        final int[] codes = new int[TEXTS * TAPE];
        final int[] ends = new int[TEXTS * PARTS];
        final int[] waiting = new int[WAITING];

        Texts() {
            set(codes, 0, THING);
            set(codes, 1, 5);
            set(codes, 2, 2);
            for (int part = 0; part < PARTS; part++) {
                set(ends, part, part + 1);
            }
            many = 1;
        }

        int add(int[] code, int[] partEnds) {
            int t = many;
            for (int i = 0; i < TAPE; i++) {
                set(codes, t * TAPE + i, at(code, i));
            }
            for (int part = 0; part < PARTS; part++) {
                set(ends, t * PARTS + part, t * TAPE + at(partEnds, part));
            }
            many++;
            return t;
        }

        /** What a part of a TEXT comes to, where its NAMES are as told. */
        int value(int t, int part, int[] names) {
            int from = part == 0 ? t * TAPE : at(ends, t * PARTS + part - 1);
            int to = at(ends, t * PARTS + part);
            int top = -1;
            for (int i = from; i < to; i++) {
                int code = at(codes, i);
                if (code >= MORE) {
                    top++;
                    set(waiting, top, code >= 0 ? code : at(names, THING - code));
                } else if (code == NOT) {
                    set(waiting, top, at(waiting, top) == 0 ? 1 : 0);
                } else if (code == MINUS) {
                    set(waiting, top, -at(waiting, top));
                } else {
                    top--;
                    set(waiting, top, ofTwo(code, at(waiting, top), at(waiting, top + 1)));
                }
            }
            return at(waiting, 0);
        }

        private static int ofTwo(int code, int a, int b) {
            switch (code) {
                case OR: return a != 0 || b != 0 ? 1 : 0;
                case AND: return a != 0 && b != 0 ? 1 : 0;
                case LESS: return a < b ? 1 : 0;
                case LIKE: return a == b ? 1 : 0;
                case PLUS: return a + b;
                case LESS_BY: return a - b;
                default: return a * b;
            }
        }
    }

    /** THE TAPE, and how a TEXT is read from it. */
    private static final class Reader {
        // TOKENS: a SIGN is its own byte, a NAME is its code (below 0), the others are these; those
        // that begin the three parts follow each other as the parts do.
        private static final int END = 0, WRONG = 1, NUMBER = 2, FIRST_PART = 3, WORD_OR = 6,
                WORD_AND = 7, WORD_NOT = 8;

        final int[] tape = new int[TAPE];
        int size;
        final int[] code = new int[TAPE];
        int written;
        final int[] ends = new int[PARTS];
        /** The TOKEN that is looked at: what, where it begins and ends, and how much it is. */
        int token;
        int place;
        int behind;
        int number;

        void add(int b) {
            if (size < TAPE) {
                set(tape, size, b);
                size++;
            }
        }

        /**
         * The place of the FAULT, or -1. Each of those that read stops at the TOKEN that can't
         * stand there and answers false, so that place is then the FAULT's.
         */
        int faultOf() {
            written = 0;
            behind = 0;
            next();
            for (int part = 0; part < PARTS; part++) {
                if (token != FIRST_PART + part) {
                    return place;
                }
                next();
                if (!readsE(this, 0) || token != ';') {
                    return place;
                }
                set(ends, part, written);
                next();
            }
            return token == END ? -1 : place;
        }

        private static boolean readsE(Reader r, int open) {
            if (r == null || open > MOST_OPEN || !readsAnd(r, open)) {
                return false;
            }
            for (int i = 0; i < TAPE && r.token == WORD_OR; i++) {
                r.next();
                if (!readsAnd(r, open)) {
                    return false;
                }
                r.write(OR);
            }
            return true;
        }

        private static boolean readsAnd(Reader r, int open) {
            if (r == null || !readsNot(r, open)) {
                return false;
            }
            for (int i = 0; i < TAPE && r.token == WORD_AND; i++) {
                r.next();
                if (!readsNot(r, open)) {
                    return false;
                }
                r.write(AND);
            }
            return true;
        }

        private static boolean readsNot(Reader r, int open) {
            if (r == null || (r.token == WORD_NOT && open >= MOST_OPEN)) {
                return false;
            }
            if (r.token == WORD_NOT) {
                r.next();
                if (!readsNot(r, open + 1)) {
                    return false;
                }
                r.write(NOT);
                return true;
            }
            if (!readsSum(r, open)) {
                return false;
            }
            int sign = r.token;
            if (sign == '<' || sign == '=') {
                r.next();
                if (!readsSum(r, open)) {
                    return false;
                }
                r.write(sign == '<' ? LESS : LIKE);
            }
            return true;
        }

        private static boolean readsSum(Reader r, int open) {
            if (r == null || !readsTerm(r, open)) {
                return false;
            }
            for (int i = 0; i < TAPE && (r.token == '+' || r.token == '-'); i++) {
                int sign = r.token;
                r.next();
                if (!readsTerm(r, open)) {
                    return false;
                }
                r.write(sign == '+' ? PLUS : LESS_BY);
            }
            return true;
        }

        private static boolean readsTerm(Reader r, int open) {
            if (r == null || !readsOne(r, open)) {
                return false;
            }
            for (int i = 0; i < TAPE && r.token == '*'; i++) {
                r.next();
                if (!readsOne(r, open)) {
                    return false;
                }
                r.write(TIMES);
            }
            return true;
        }

        private static boolean readsOne(Reader r, int open) {
            if (r == null) {
                return false;
            }
            if (r.token == NUMBER || r.token < 0) {
                r.write(r.token < 0 ? r.token : r.number);
                r.next();
                return true;
            }
            if ((r.token != '-' && r.token != '(') || open >= MOST_OPEN) {
                return false;
            }
            boolean minus = r.token == '-';
            r.next();
            if (minus) {
                if (!readsOne(r, open + 1)) {
                    return false;
                }
                r.write(MINUS);
                return true;
            }
            if (!readsE(r, open + 1) || r.token != ')') {
                return false;
            }
            r.next();
            return true;
        }

        private void write(int c) {
            set(code, written, c);
            written++;
        }

        /** Looks at the TOKEN behind the one that is looked at. */
        private void next() {
            int i = behind;
            while (i < size && (at(tape, i) == ' ' || at(tape, i) == 10)) {
                i++;
            }
            place = i;
            if (i >= size) {
                behind = i;
                token = END;
            } else if (isLetter(i)) {
                behind = endOfWord(i);
                token = wordOf();
            } else if (isDigit(i)) {
                behind = endOfNumber(i);
                token = behind - i > 4 ? WRONG : NUMBER;
            } else {
                behind = i + 1;
                token = isSign(at(tape, i)) ? at(tape, i) : WRONG;
            }
        }

        private int endOfWord(int from) {
            int end = from;
            while (end < size && isLetter(end)) {
                end++;
            }
            return end;
        }

        private int endOfNumber(int from) {
            int end = from;
            number = 0;
            while (end < size && isDigit(end)) {
                // Of a NUMBER that is too long only its length matters.
                number = end - from < 4 ? number * 10 + at(tape, end) - '0' : 0;
                end++;
            }
            return end;
        }

        private int wordOf() {
            if (spells("lets")) {
                return FIRST_PART + LETS;
            }
            if (spells("lucks")) {
                return FIRST_PART + LUCKS;
            }
            if (spells("takes")) {
                return FIRST_PART + TAKES;
            }
            if (spells("or")) {
                return WORD_OR;
            }
            if (spells("and")) {
                return WORD_AND;
            }
            if (spells("not")) {
                return WORD_NOT;
            }
            if (spells("thing")) {
                return THING;
            }
            if (spells("known")) {
                return KNOWN;
            }
            if (spells("kept")) {
                return KEPT;
            }
            if (spells("tide")) {
                return TIDE;
            }
            if (spells("luck")) {
                return LUCK;
            }
            return spells("more") ? MORE : WRONG;
        }

        private boolean spells(String word) {
            if (word == null || word.length() != behind - place) {
                return false;
            }
            for (int i = 0; i < word.length(); i++) {
                if (word.charAt(i) != at(tape, place + i)) {
                    return false;
                }
            }
            return true;
        }

        private boolean isLetter(int i) {
            int b = at(tape, i);
            return b >= 'a' && b <= 'z';
        }

        private boolean isDigit(int i) {
            int b = at(tape, i);
            return b >= '0' && b <= '9';
        }

        private static boolean isSign(int b) {
            switch (b) {
                case '(': case ')': case ';': case '+': case '-': case '*': case '<': case '=':
                    return true;
                default:
                    return false;
            }
        }
    }

    /** FISHERS, THE SEA, TIDE and THE LAW: as they are now, as they were, or in thought. */
    private static final class Coast {
        private final Texts texts;
        private final int[] names = new int[NAMES];
        int fishers;
        int sea;
        int tide;
        int law;
        final int[] kind = new int[FISHERS];
        final int[] more = new int[FISHERS];
        final int[] known = new int[FISHERS];
        final int[] kept = new int[FISHERS];
        final int[] luck = new int[FISHERS];

        Coast(Texts texts) {
            this.texts = texts;
        }

        void become(Coast other) {
            if (other == null) {
                return;
            }
            fishers = other.fishers;
            sea = other.sea;
            tide = other.tide;
            law = other.law;
            for (int p = 0; p < FISHERS; p++) {
                set(kind, p, at(other.kind, p));
                set(more, p, at(other.more, p));
                set(known, p, at(other.known, p));
                set(kept, p, at(other.kept, p));
                set(luck, p, at(other.luck, p));
            }
        }

        boolean has(int p) {
            return p >= 0 && p < fishers;
        }

        int comes(int newKind, int newMore, int names) {
            int p = fishers;
            set(kind, p, newKind);
            set(more, p, newMore);
            set(known, p, names);
            set(kept, p, 0);
            set(luck, p, FIRST_LUCK);
            fishers++;
            return p;
        }

        int nameless(int p) {
            return at(kept, p) & ~at(known, p);
        }

        int knownToAny() {
            int any = 0;
            for (int p = 0; p < fishers; p++) {
                any |= at(known, p);
            }
            return any;
        }

        /** What a part of THE LAW says, whatever the KIND. */
        int says(int part, int p, int thing) {
            if (texts == null) {
                return 0;
            }
            set(names, THING - THING, part == TAKES ? 0 : thing);
            set(names, THING - KNOWN, Integer.bitCount(at(known, p)));
            set(names, THING - KEPT, Integer.bitCount(at(kept, p)));
            set(names, THING - TIDE, tide);
            set(names, THING - LUCK, at(luck, p));
            set(names, THING - MORE, at(more, p));
            int v = texts.value(law, part, names);
            return part == TAKES ? bounded(v, 0, 16) : bounded(v, -99, 99);
        }

        int letsGo(int p, int thing) {
            int many = Integer.bitCount(at(known, p));
            if (many < 1) {
                return -1;
            }
            int first = Math.floorMod(says(LETS, p, thing), many);
            int last = many - 1 - first;
            switch (at(kind, p)) {
                case UNCLE: return numbered(at(known, p), last);
                case OLD: return numbered(at(known, p), many < 2 ? 0 : Math.max(last, 1));
                case MUTE: return numbered(at(known, p), at(more, p) % many);
                default: return numbered(at(known, p), first);
            }
        }

        int lucksBy(int p, int thing) {
            boolean named = holds(at(known, p), thing);
            int said = says(LUCKS, p, thing);
            switch (at(kind, p)) {
                case UNCLE: case OLD: return named ? said : said - at(more, p);
                case MASTER: return said / 2;
                case GIRL: return named ? at(more, p) : said / 2;
                default: return said;
            }
        }

        int takesOf(int p) {
            int said = says(TAKES, p, 0);
            switch (at(kind, p)) {
                case MASTER: return said + at(more, p);
                case OLD: return tide % 3 == 0 ? said : 0;
                case GIRL: return 2 * (said + at(more, p));
                case MUTE: return 1;
                default: return said;
            }
        }

        /** One LANDS a THING: the NAME, or -1. */
        int landing(int p, int thing) {
            if (!has(p) || !isThing(thing)) {
                return -1;
            }
            int name = letsGo(p, thing);
            set(luck, p, bounded(at(luck, p) + lucksBy(p, thing), 0, MOST_LUCK));
            set(kept, p, at(kept, p) | 1 << thing);
            if (name >= 0) {
                set(known, p, at(known, p) & ~(1 << name));
                sea |= 1 << name;
            }
            return name;
        }

        /** Which NAMES b would learn by a LESSON of a. */
        int learns(int a, int b) {
            int strange = at(known, a) & ~at(known, b);
            return strange == 0 ? 0 : leastOf(strange, takesOf(b));
        }

        void isTold(int p, int bits) {
            set(known, p, at(known, p) | bits);
        }

        /** A TIDE goes: the NAME, or -1. */
        int washes() {
            tide++;
            if (fishers == 0 || sea == 0) {
                return -1;
            }
            int finder = 0;
            for (int p = 1; p < fishers; p++) {
                if (Integer.bitCount(at(known, p)) < Integer.bitCount(at(known, finder))) {
                    finder = p;
                }
            }
            int name = numbered(sea, 0);
            sea &= ~(1 << name);
            isTold(finder, 1 << name);
            return name;
        }
    }
}
