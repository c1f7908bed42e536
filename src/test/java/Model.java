import java.util.ArrayList;
import java.util.List;
import java.util.TreeSet;

/**
 * The document once more, with other means and without care for room or speed: sets of Integers,
 * a class for each KIND, a text that is cut at its operators each time that it is asked.
 */
final class Model {
    static final long NO = -4611686018427387904L;

    /** How often the object that it is the model of was used. */
    int calls;

    static class Fisher {
        int kind;
        int more;
        int luck = 50;
        TreeSet<Integer> known = new TreeSet<>();
        TreeSet<Integer> kept = new TreeSet<>();

        int letsAt(long said, int many) { return (int) ((said % many + many) % many); }
        long lucksBy(long said, boolean named) { return said; }
        long takes(long said, int tide) { return said; }
    }

    static class Uncle extends Fisher {
        @Override int letsAt(long said, int many) { return many - 1 - super.letsAt(said, many); }
        @Override long lucksBy(long said, boolean named) { return named ? super.lucksBy(said, named) : super.lucksBy(said, named) - more; }
    }

    static class Master extends Fisher {
        @Override long takes(long said, int tide) { return super.takes(said, tide) + more; }
        @Override long lucksBy(long said, boolean named) { return super.lucksBy(said, named) / 2; }
    }

    static class Old extends Uncle {
        @Override int letsAt(long said, int many) {
            int n = super.letsAt(said, many);
            return many >= 2 && n == 0 ? 1 : n;
        }
        @Override long takes(long said, int tide) { return tide % 3 == 0 ? super.takes(said, tide) : 0; }
    }

    static class Girl extends Master {
        @Override long takes(long said, int tide) { return 2 * super.takes(said, tide); }
        @Override long lucksBy(long said, boolean named) { return named ? more : super.lucksBy(said, named); }
    }

    static class Mute extends Fisher {
        @Override int letsAt(long said, int many) { return more % many; }
        @Override long takes(long said, int tide) { return 1; }
    }

    static Fisher of(int kind, int more) {
        Fisher[] each = {new Fisher(), new Uncle(), new Master(), new Old(), new Girl(), new Mute()};
        each[kind].kind = kind;
        each[kind].more = more;
        return each[kind];
    }

    static Fisher like(Fisher f, int kind, int more) {
        Fisher g = of(kind, more);
        g.luck = f.luck;
        g.known = new TreeSet<>(f.known);
        g.kept = new TreeSet<>(f.kept);
        return g;
    }

    static TreeSet<Integer> set(int bits) {
        TreeSet<Integer> s = new TreeSet<>();
        for (int i = 0; i < 16; i++) {
            if ((bits & 1 << i) != 0) {
                s.add(i);
            }
        }
        return s;
    }

    static int bits(Iterable<Integer> s) {
        int b = 0;
        for (int i : s) {
            b |= 1 << i;
        }
        return b;
    }

    final class State {
        List<Fisher> fishers = new ArrayList<>();
        TreeSet<Integer> sea = new TreeSet<>();
        int tide;
        int law;

        State copy() {
            State c = new State();
            for (Fisher f : fishers) {
                c.fishers.add(like(f, f.kind, f.more));
            }
            c.sea = new TreeSet<>(sea);
            c.tide = tide;
            c.law = law;
            return c;
        }

        int says(int part, int p, int thing) {
            Fisher f = fishers.get(p);
            int v = new Text(texts.get(law)).value(part, part == 2 ? 0 : thing, f.known.size(), f.kept.size(), tide, f.luck, f.more);
            return part == 2 ? Math.min(16, Math.max(0, v)) : Math.min(99, Math.max(-99, v));
        }

        int letsGo(int p, int thing) {
            Fisher f = fishers.get(p);
            if (f.known.isEmpty()) {
                return -1;
            }
            return new ArrayList<>(f.known).get(f.letsAt(says(0, p, thing), f.known.size()));
        }

        int lucksBy(int p, int thing) {
            return (int) fishers.get(p).lucksBy(says(1, p, thing), fishers.get(p).known.contains(thing));
        }

        int takes(int p) {
            return (int) Math.max(0, fishers.get(p).takes(says(2, p, 0), tide));
        }

        int land(int p, int thing) {
            int name = letsGo(p, thing);
            int by = lucksBy(p, thing);
            Fisher f = fishers.get(p);
            f.luck = Math.min(99, Math.max(0, f.luck + by));
            f.kept.add(thing);
            if (name >= 0) {
                f.known.remove(name);
                sea.add(name);
            }
            return name;
        }

        int teach(int a, int b) {
            TreeSet<Integer> learned = new TreeSet<>();
            int takes = takes(b);
            for (int name : fishers.get(a).known) {
                if (!fishers.get(b).known.contains(name) && learned.size() < takes) {
                    learned.add(name);
                }
            }
            fishers.get(b).known.addAll(learned);
            return bits(learned);
        }

        int ebb() {
            tide++;
            if (fishers.isEmpty() || sea.isEmpty()) {
                return -1;
            }
            Fisher finder = null;
            for (Fisher f : fishers) {
                if (finder == null || f.known.size() < finder.known.size()) {
                    finder = f;
                }
            }
            int name = sea.pollFirst();
            finder.known.add(name);
            return name;
        }

        TreeSet<Integer> any() {
            TreeSet<Integer> any = new TreeSet<>();
            for (Fisher f : fishers) {
                any.addAll(f.known);
            }
            return any;
        }
    }

    State now = new State();
    State image;
    final List<String> texts = new ArrayList<>();
    final StringBuilder tape = new StringBuilder();
    final int[] sorts = {-1, -1, -1, -1};
    final int[][] rows = new int[4][];

    Model() {
        texts.add("lets thing ; lucks 5 ; takes 2 ; ");
    }

    int count(int what) {
        int[] counts = {now.fishers.size(), now.sea.size(), now.tide, texts.size(), now.law, tape.length()};
        return what < 0 || what > 5 ? -2 : counts[what];
    }

    int shore(int what, int v) {
        if (what < 0 || what > 1 || v < 0 || v > (what == 0 ? 999 : 65535)) {
            return -2;
        }
        int was = what == 0 ? now.tide : bits(now.sea);
        if (what == 0) {
            now.tide = v;
        } else {
            now.sea = set(v);
        }
        return was;
    }

    int feed(int n, int... five) {
        if (n < 1 || n > 5) {
            return -2;
        }
        for (int b : five) {
            if (b < 0 || b > 255) {
                return -2;
            }
        }
        if (tape.length() + n > 160) {
            return -4;
        }
        for (int i = 0; i < n; i++) {
            tape.append((char) five[i]);
        }
        return tape.length();
    }

    int text() {
        if (texts.size() == 6) {
            return -4;
        }
        String t = tape.toString();
        tape.setLength(0);
        int fault = new Text(t).fault();
        if (fault >= 0) {
            return -100 - fault;
        }
        texts.add(t);
        return texts.size() - 1;
    }

    int force(int t) {
        if (t < 0 || t >= texts.size()) {
            return -2;
        }
        int was = now.law;
        now.law = t;
        return was;
    }

    boolean none(int p) { return p < 0 || p >= now.fishers.size(); }

    int asks(int part, int p, int thing) {
        return part < 0 || part > 2 || none(p) || thing < 0 || thing > 15 ? -1000 : now.says(part, p, thing);
    }

    int fisher(int kindMore, int known) {
        if (kindMore < 0 || kindMore > 59 || known < 0 || known > 65535) {
            return -2;
        }
        if (now.fishers.size() == 6) {
            return -4;
        }
        Fisher f = of(kindMore / 10, kindMore % 10);
        f.known = set(known);
        now.fishers.add(f);
        return now.fishers.size() - 1;
    }

    int put(int p, int what, int v) {
        if (none(p)) {
            return -5;
        }
        if (what < 0 || what > 2 || v < 0 || v > (what == 2 ? 99 : 65535)) {
            return -7;
        }
        int was = told(p, what);
        Fisher f = now.fishers.get(p);
        if (what == 0) {
            f.known = set(v);
        } else if (what == 1) {
            f.kept = set(v);
        } else {
            f.luck = v;
        }
        return was;
    }

    static int nameless(Fisher f) {
        TreeSet<Integer> s = new TreeSet<>(f.kept);
        s.removeAll(f.known);
        return bits(s);
    }

    int told(int p, int what) {
        if (none(p)) {
            return -5;
        }
        Fisher f = now.fishers.get(p);
        int[] all = {bits(f.known), bits(f.kept), f.luck, f.kind, f.more, nameless(f), now.takes(p)};
        return what < 0 || what > 6 ? -7 : all[what];
    }

    int lands(int p, int thing, int what) {
        if (none(p) || thing < 0 || thing > 15) {
            return -5000;
        }
        return what == 0 ? now.letsGo(p, thing) : what == 1 ? now.lucksBy(p, thing) : -7000;
    }

    int land(int p, int thing) {
        return none(p) ? -5 : thing < 0 || thing > 15 ? -6 : now.land(p, thing);
    }

    int teach(int a, int b) {
        return none(a) || none(b) || a == b ? -5 : now.teach(a, b);
    }

    int tide() {
        return now.tide == 999 ? -3 : now.ebb();
    }

    int talk(int some, int what) {
        if (some < 0 || some >= Math.pow(2, now.fishers.size()) || what < 0 || what > 3) {
            return -2;
        }
        int answer = 0;
        for (int name = 0; name < 16; name++) {
            int all = 0;
            int with = 0;
            for (int p = 0; p < now.fishers.size(); p++) {
                if ((some >> p & 1) == 1) {
                    all++;
                    with += now.fishers.get(p).known.contains(name) ? 1 : 0;
                }
            }
            boolean[] so = {with == all, with > 0, with == 0, with == 1};
            answer |= so[what] ? 1 << name : 0;
        }
        return answer;
    }

    boolean noSheet(int s) { return s < 0 || s > 3; }

    int refusedSeason(int s) {
        if (noSheet(s)) {
            return -2;
        }
        if (sorts[s] == -1) {
            return -11;
        }
        for (int v : rows[s]) {
            if (v < 0 || v > 15) {
                return -2;
            }
        }
        return 0;
    }

    int season(int s, int p, int what) {
        int r = refusedSeason(s);
        if (r != 0) {
            return r;
        }
        if (none(p)) {
            return -5;
        }
        if (what < 0 || what > 4) {
            return -7;
        }
        State c = now.copy();
        int without = 0;
        for (int thing : rows[s]) {
            without += c.land(p, thing) == -1 ? 1 : 0;
            c.ebb();
        }
        Fisher f = c.fishers.get(p);
        return new int[] {f.known.size(), f.luck, bits(c.sea), without, nameless(f)}[what];
    }

    int fish(int s, int p) {
        int r = refusedSeason(s);
        if (r != 0) {
            return r;
        }
        if (none(p)) {
            return -5;
        }
        if (now.tide + rows[s].length > 999) {
            return -3;
        }
        for (int thing : rows[s]) {
            now.land(p, thing);
            now.ebb();
        }
        return now.fishers.get(p).known.size();
    }

    int which(int p, int what) {
        if (none(p)) {
            return -5;
        }
        if (what < 0 || what > 1) {
            return -7;
        }
        int best = -1;
        int luck = -1;
        for (int thing = 0; thing < 16; thing++) {
            State c = now.copy();
            if (c.fishers.get(p).kept.contains(thing)) {
                continue;
            }
            c.land(p, thing);
            if (c.fishers.get(p).luck > luck) {
                luck = c.fishers.get(p).luck;
                best = thing;
            }
        }
        return what == 0 ? best : best == -1 ? now.fishers.get(p).luck : luck;
    }

    int taught(int p, int what) {
        if (none(p)) {
            return -5;
        }
        if (what < 0 || what > 1) {
            return -7;
        }
        int best = -1;
        int most = 0;
        for (int a = 0; a < now.fishers.size(); a++) {
            if (a != p && Integer.bitCount(now.copy().teach(a, p)) > most) {
                most = Integer.bitCount(now.copy().teach(a, p));
                best = a;
            }
        }
        return what == 0 ? best : most;
    }

    int lessons(int p, int name, int what) {
        if (none(p)) {
            return -5;
        }
        if (name < 0 || name > 15 || what < 0 || what > 1) {
            return -7;
        }
        for (int few = 0; few <= 3; few++) {
            int number = search(now, p, name, few, 0);
            if (number >= 0) {
                return what == 0 ? few : number;
            }
        }
        return -1;
    }

    /** Every row of so many lessons, in order, useless ones too. */
    private int search(State s, int p, int name, int left, int number) {
        if (left == 0) {
            return s.fishers.get(p).known.contains(name) ? number : -1;
        }
        for (int a = 0; a < s.fishers.size(); a++) {
            for (int b = 0; b < s.fishers.size(); b++) {
                if (a != b) {
                    State c = s.copy();
                    c.teach(a, b);
                    int found = search(c, p, name, left - 1, 100 * number + 10 * a + b + 1);
                    if (found >= 0) {
                        return found;
                    }
                }
            }
        }
        return -1;
    }

    int when(int what) {
        if (what < -1 || what > 15) {
            return -2;
        }
        State c = now.copy();
        for (int tides = 0; tides <= 60; tides++) {
            if (what == -1 ? c.sea.isEmpty() : c.any().contains(what)) {
                return tides;
            }
            c.ebb();
        }
        return -1;
    }

    static long part(int above, int below, int part) {
        for (int by = below; by > 0; by--) {
            if (above % by == 0 && below % by == 0) {
                return part == 0 ? above / by : part == 1 ? below / by : NO;
            }
        }
        return NO;
    }

    long share(int p, int part) {
        if (none(p) || now.fishers.get(p).kept.isEmpty()) {
            return NO;
        }
        Fisher f = now.fishers.get(p);
        return part(f.kept.size() - Integer.bitCount(nameless(f)), f.kept.size(), part);
    }

    int refusedTelling(int s, int told) {
        if (noSheet(told)) {
            return -2;
        }
        int r = refusedSeason(s);
        if (r != 0) {
            return r;
        }
        return sorts[told] == -1 ? -11 : rows[told].length > rows[s].length ? -2 : 0;
    }

    int judged(State c, int s, int told, int p) {
        for (int i = 0; i < rows[told].length; i++) {
            c.land(p, rows[s][i]);
            c.ebb();
            if (c.fishers.get(p).luck != rows[told][i]) {
                return i;
            }
        }
        return -1;
    }

    int judge(int s, int told, int p) {
        int r = refusedTelling(s, told);
        return r != 0 ? r : none(p) ? -5 : judged(now.copy(), s, told, p);
    }

    int kinds(int s, int told, int p, int sort) {
        int r = refusedTelling(s, told);
        if (r != 0 || none(p)) {
            return r != 0 ? r : -5;
        }
        if (sort < 0 || sort > 1) {
            return -7;
        }
        int found = 0;
        for (int v = 0; v < (sort == 0 ? 6 : 10); v++) {
            State c = now.copy();
            Fisher f = c.fishers.get(p);
            c.fishers.set(p, like(f, sort == 0 ? v : f.kind, sort == 1 ? v : f.more));
            found |= judged(c, s, told, p) == -1 ? 1 << v : 0;
        }
        return found;
    }

    int turned(int s, int told, int p) {
        int r = refusedTelling(s, told);
        if (r != 0 || none(p)) {
            return r != 0 ? r : -5;
        }
        int found = 0;
        for (int name = 0; name < 16; name++) {
            State c = now.copy();
            if (!c.fishers.get(p).known.remove(name)) {
                c.fishers.get(p).known.add(name);
            }
            found |= judged(c, s, told, p) == -1 ? 1 << name : 0;
        }
        return found;
    }

    int lucks(int s, int told, int p, int what) {
        int r = refusedTelling(s, told);
        if (r != 0 || none(p)) {
            return r != 0 ? r : -5;
        }
        if (what < 0 || what > 1) {
            return -7;
        }
        TreeSet<Integer> found = new TreeSet<>();
        for (int luck = 0; luck < 100; luck++) {
            State c = now.copy();
            c.fishers.get(p).luck = luck;
            if (judged(c, s, told, p) == -1) {
                found.add(luck);
            }
        }
        return what == 0 ? found.size() : found.isEmpty() ? -1 : found.first();
    }

    int whose(int s, int told) {
        int r = refusedTelling(s, told);
        if (r != 0) {
            return r;
        }
        int found = 0;
        for (int p = 0; p < now.fishers.size(); p++) {
            found |= judged(now.copy(), s, told, p) == -1 ? 1 << p : 0;
        }
        return found;
    }

    int laws(int s, int told, int p) {
        int r = refusedTelling(s, told);
        if (r != 0 || none(p)) {
            return r != 0 ? r : -5;
        }
        int found = 0;
        for (int t = 0; t < texts.size(); t++) {
            State c = now.copy();
            c.law = t;
            found |= judged(c, s, told, p) == -1 ? 1 << t : 0;
        }
        return found;
    }

    int film(int s, int told, int p) {
        if (noSheet(told) || s == told) {
            return -2;
        }
        int r = refusedSeason(s);
        if (r != 0 || none(p)) {
            return r != 0 ? r : -5;
        }
        int[] row = new int[rows[s].length];
        State c = now.copy();
        for (int i = 0; i < row.length; i++) {
            c.land(p, rows[s][i]);
            c.ebb();
            row[i] = c.fishers.get(p).luck;
        }
        sorts[told] = 0;
        rows[told] = row;
        return row.length;
    }

    State draw(long seed, int n) {
        State c = now.copy();
        long[] lots = new long[2 * n + 1];
        lots[0] = seed + 1;
        for (int i = 1; i < lots.length; i++) {
            lots[i] = lots[i - 1] * 48271 % 2147483647;
        }
        for (int i = 0; i < n; i++) {
            int p = (int) (lots[2 * i + 1] % 6);
            if (p < c.fishers.size()) {
                c.land(p, (int) (lots[2 * i + 2] % 16));
            }
            if (i % 3 == 2) {
                c.ebb();
            }
        }
        return c;
    }

    int drawn(int seed, int n, int what) {
        if (seed < 0 || seed > 99999 || n < 0 || n > 60 || what < 0 || what > 1) {
            return -2;
        }
        return what == 0 ? draw(seed, n).any().size() : bits(draw(seed, n).sea);
    }

    long odds(int seed, int seeds, int least, int part) {
        if (seed < 0 || seed > 99999 || seeds < 1 || seeds > 40 || least < 0 || least > 16) {
            return NO;
        }
        int many = 0;
        for (int i = 0; i < seeds; i++) {
            many += draw(seed + i, 20).any().size() >= least ? 1 : 0;
        }
        return part(many, seeds, part);
    }

    int image() {
        image = now.copy();
        return image.fishers.size();
    }

    int back() {
        if (image == null) {
            return -3;
        }
        now = image.copy();
        return now.fishers.size();
    }

    int sheet(int s, int sort, int n) {
        if (noSheet(s) || sort < -1 || sort > 2 || (sort >= 0 && n > 40)) {
            return -2;
        }
        if (sort >= 0 && n < 0) {
            return -14;
        }
        sorts[s] = sort;
        rows[s] = sort == -1 ? null : new int[n];
        return 1;
    }

    int cell(int s, int i, int v) {
        if (noSheet(s)) {
            return -2;
        }
        if (sorts[s] == -1) {
            return -11;
        }
        if (i < 0 || i >= rows[s].length) {
            return -12;
        }
        rows[s][i] = sorts[s] == 0 ? v << 24 >> 24 : sorts[s] == 1 ? v << 16 >> 16 : v;
        return 1;
    }

    int copy(int s, int i, int other, int j, int n) {
        if (noSheet(s) || noSheet(other)) {
            return -2;
        }
        if (sorts[s] == -1 || sorts[other] == -1) {
            return -11;
        }
        if (sorts[s] != sorts[other]) {
            return -13;
        }
        if (i < 0 || j < 0 || n < 0 || (long) i + n > rows[s].length || (long) j + n > rows[other].length) {
            return -12;
        }
        System.arraycopy(rows[s], i, rows[other], j, n);
        return n;
    }

    int fishersBy(int s, int sort, int from, int n) {
        if (noSheet(s) || sort < 0 || sort > 2 || n < 0 || n > 6) {
            return -2;
        }
        if (sorts[s] == -1) {
            return -11;
        }
        if (sorts[s] != sort) {
            return -13;
        }
        int came = 0;
        for (int k = 0; k < n; k++) {
            long place = from + 2L * k;
            if (place < 0 || place + 1 >= rows[s].length) {
                return -12;
            }
            came += fisher(rows[s][(int) place], rows[s][(int) place + 1]) >= 0 ? 1 : 0;
        }
        return came;
    }

    int taken(int i, int kind) {
        if (kind < 0 || kind > 6) {
            return -2;
        }
        if (i < 0 || i > 11) {
            return -12;
        }
        if (none(i % 6)) {
            return -11;
        }
        Fisher f = now.fishers.get(i % 6);
        if (kind == 6) {
            return i < 6 ? -13 : bits(f.known);
        }
        boolean[] is = {true, f instanceof Uncle, f instanceof Master, f instanceof Old, f instanceof Girl, f instanceof Mute};
        return i < 6 && is[kind] ? i : -13;
    }

    long ask(int call, int[] a) {
        switch (call) {
            case 0: return count(a[0]);
            case 1: return shore(a[0], a[1]);
            case 2: return feed(a[0], a[1], a[2], a[3], a[4], a[5]);
            case 3: return text();
            case 4: return force(a[0]);
            case 5: return asks(a[0], a[1], a[2]);
            case 6: return fisher(a[0], a[1]);
            case 7: return put(a[0], a[1], a[2]);
            case 8: return told(a[0], a[1]);
            case 9: return lands(a[0], a[1], a[2]);
            case 10: return land(a[0], a[1]);
            case 11: return teach(a[0], a[1]);
            case 12: return tide();
            case 13: return talk(a[0], a[1]);
            case 14: return season(a[0], a[1], a[2]);
            case 15: return fish(a[0], a[1]);
            case 16: return which(a[0], a[1]);
            case 17: return taught(a[0], a[1]);
            case 18: return lessons(a[0], a[1], a[2]);
            case 19: return when(a[0]);
            case 20: return share(a[0], a[1]);
            case 21: return judge(a[0], a[1], a[2]);
            case 22: return kinds(a[0], a[1], a[2], a[3]);
            case 23: return turned(a[0], a[1], a[2]);
            case 24: return lucks(a[0], a[1], a[2], a[3]);
            case 25: return whose(a[0], a[1]);
            case 26: return laws(a[0], a[1], a[2]);
            case 27: return film(a[0], a[1], a[2]);
            case 28: return drawn(a[0], a[1], a[2]);
            case 29: return odds(a[0], a[1], a[2], a[3]);
            case 30: return image();
            case 31: return back();
            case 32: return sheet(a[0], a[1], a[2]);
            case 33: return cell(a[0], a[1], a[2]);
            case 34: return copy(a[0], a[1], a[2], a[3], a[4]);
            case 35: return fishersBy(a[0], a[1], a[2], a[3]);
            default: return taken(a[0], a[1]);
        }
    }
}
