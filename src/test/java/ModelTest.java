import java.util.Arrays;
import java.util.Random;

/** Runs by lots on the class and on the model: each answer is the same. Also many texts, broken ones too. */
public final class ModelTest {
    private static final String[] TOKENS = {"lets", "lucks", "takes", "or", "and", "not", "thing", "known", "kept", "tide", "luck",
        "more", "(", ")", ";", "+", "-", "*", "<", "=", "0", "7", "12345", "9999", "@", "let", "\u00e9", "\n", " "};

    private static final int MOST_CALLS = 512;

    public static void main(String[] args) {
        Random lots = new Random(20261119);
        int runs = args.length > 0 ? Integer.parseInt(args[0]) : 150;
        for (int run = 0; run < runs; run++) {
            calls(lots, run);
        }
        for (int run = 0; run < 200 * runs; run++) {
            texts(new NameThrownBack(), new Model(), lots);
        }
        for (int run = 0; run < 10 * runs; run++) {
            scene(lots, run);
        }
        for (int run = 0; run < runs; run++) {
            school(lots, run);
        }
        Due.end();
    }

    /** Fishers who take little, so that a name comes by several lessons, some round by another one. */
    static void school(Random lots, int run) {
        NameThrownBack x = new NameThrownBack();
        Model m = new Model();
        String all = "school " + run + ": ";
        String law = "lets 0;lucks 0;takes " + (lots.nextBoolean() ? "1" : "known < 3 or more = 1") + ";";
        for (int i = 0; i < law.length(); i++) {
            ask(x, m, all, 2, 1, law.charAt(i));
        }
        ask(x, m, all, 3);
        ask(x, m, all, 4, 1);
        int n = 2 + lots.nextInt(3);
        int[] kinds = {0, 1, 1, 3, 5, 5, 2, 4};
        for (int p = 0; p < n; p++) {
            ask(x, m, all, 6, 10 * kinds[lots.nextInt(8)] + lots.nextInt(2), lots.nextInt(65536) & lots.nextInt(65536) & 255);
        }
        for (int i = 0; i < 12; i++) {
            int p = lots.nextInt(n);
            int name = lots.nextInt(8);
            ask(x, m, all, 18, p, name, 0);
            ask(x, m, all, 18, p, name, 1);
        }
    }

    /**
     * Fishers by some law, a season that is filmed of one of them; then something is changed, or
     * what is told is cut or turned, and all that thinks is asked of all.
     */
    static void scene(Random lots, int run) {
        NameThrownBack x = new NameThrownBack();
        Model m = new Model();
        String all = "scene " + run + ": ";
        for (int t = lots.nextInt(4); t > 0; t--) {
            texts(x, m, lots);
        }
        ask(x, m, all, 31);
        ask(x, m, all, 4, lots.nextInt(m.texts.size()));
        int n = 1 + lots.nextInt(lots.nextInt(8) == 0 ? 6 : 3);
        for (int p = 0; p < n; p++) {
            int few = lots.nextBoolean() ? 65535 : lots.nextInt(65536);
            ask(x, m, all, 6, lots.nextInt(60), lots.nextInt(65536) & lots.nextInt(65536) & few);
            ask(x, m, all, 7, p, 1, lots.nextInt(65536) & lots.nextInt(65536));
            ask(x, m, all, 7, p, 2, lots.nextInt(100));
        }
        ask(x, m, all, 1, 0, lots.nextInt(5) == 0 ? 999 - lots.nextInt(9) : lots.nextInt(40));
        ask(x, m, all, 1, 1, lots.nextInt(65536) & lots.nextInt(65536) & lots.nextInt(65536));
        int landings = lots.nextInt(lots.nextInt(5) == 0 ? 41 : 7);
        ask(x, m, all, 32, 0, lots.nextInt(3), landings);
        for (int i = 0; i < landings; i++) {
            ask(x, m, all, 33, 0, i, lots.nextInt(16));
        }
        int one = lots.nextInt(n);
        ask(x, m, all, 27, 0, 1, one);
        ask(x, m, all, 30);
        changes(x, m, all, lots, one, landings);
        thinks(x, m, all, lots);
        ask(x, m, all, 15, 0, one);
        thinks(x, m, all, lots);
        ask(x, m, all, 31);
        ask(x, m, all, 21, 0, 1, one);
    }

    static void changes(NameThrownBack x, Model m, String all, Random lots, int one, int landings) {
        switch (lots.nextInt(8)) {
            case 0: ask(x, m, all, 7, one, 0, Model.bits(m.now.fishers.get(one).known) ^ 1 << lots.nextInt(16)); break;
            case 1: ask(x, m, all, 7, one, 2, lots.nextInt(100)); break;
            case 2: ask(x, m, all, 4, lots.nextInt(m.texts.size())); break;
            case 3: ask(x, m, all, 6, lots.nextInt(60), Model.bits(m.now.fishers.get(one).known)); break;
            case 4: ask(x, m, all, 33, 1, lots.nextInt(7), lots.nextInt(100)); break;
            case 5:
                int told = lots.nextInt(landings + 1);
                ask(x, m, all, 32, 2, 0, told);
                ask(x, m, all, 34, 1, 0, 2, 0, told);
                ask(x, m, all, 32, 1, 0, told);
                ask(x, m, all, 34, 2, 0, 1, 0, told);
                break;
            default: break;
        }
    }

    static void thinks(NameThrownBack x, Model m, String all, Random lots) {
        int n = m.now.fishers.size();
        for (int p = 0; p < n; p++) {
            for (int what = 0; what < 7; what++) {
                ask(x, m, all, 8, p, what);
            }
            for (int what = 0; what < 5; what++) {
                ask(x, m, all, 14, 0, p, what);
            }
            int thing = lots.nextInt(16);
            int name = lots.nextInt(16);
            ask(x, m, all, 21, 0, 1, p);
            ask(x, m, all, 23, 0, 1, p);
            ask(x, m, all, 26, 0, 1, p);
            for (int what = 0; what < 2; what++) {
                ask(x, m, all, 9, p, thing, what);
                ask(x, m, all, 16, p, what);
                ask(x, m, all, 17, p, what);
                ask(x, m, all, 20, p, what);
                ask(x, m, all, 22, 0, 1, p, what);
                ask(x, m, all, 24, 0, 1, p, what);
                if (n < 4 || lots.nextInt(40) == 0) {
                    ask(x, m, all, 18, p, name, what);
                }
            }
        }
        ask(x, m, all, 25, 0, 1);
        ask(x, m, all, 19, lots.nextInt(17) - 1);
        ask(x, m, all, 28, lots.nextInt(100000), lots.nextInt(61), lots.nextInt(2));
        ask(x, m, all, 29, lots.nextInt(100000), 1 + lots.nextInt(40), lots.nextInt(17), lots.nextInt(2));
    }

    /** Asks both, unless the object was used as often as one is. */
    static void ask(NameThrownBack x, Model m, String run, int call, int... told) {
        if (m.calls >= MOST_CALLS) {
            return;
        }
        m.calls++;
        int[] a = Arrays.copyOf(told, 6);
        Due.is(run + Calls.name(call, a), Calls.ask(x, call, a), m.ask(call, a));
    }

    static void calls(Random lots, int run) {
        NameThrownBack x = new NameThrownBack();
        Model m = new Model();
        StringBuilder told = new StringBuilder();
        while (m.calls < MOST_CALLS) {
            int call = lots.nextInt(Calls.MANY);
            if (call == 2 && lots.nextInt(3) > 0) {
                texts(x, m, lots);
            }
            int[] a = arguments(call, m, lots);
            if (call == 18 && m.now.fishers.size() > 3 && lots.nextInt(5 * m.now.fishers.size()) > 0) {
                continue;
            }
            if (call == 31 && lots.nextInt(5) > 0) {
                continue;
            }
            if (m.calls >= MOST_CALLS) {
                return;
            }
            m.calls++;
            long got = Calls.ask(x, call, a);
            long want = m.ask(call, a);
            told.append(Calls.name(call, a)).append(' ');
            Due.is("run " + run + ": " + Calls.name(call, a), got, want);
            if (got != want) {
                System.out.println(told);
                return;
            }
        }
    }

    static int[] arguments(int call, Model m, Random lots) {
        int[] a = new int[6];
        for (int k = 0; k < a.length; k++) {
            a[k] = lots.nextInt(20) == 0 ? lots.nextInt(200) - 50 : lots.nextInt(lots.nextInt(16) + 1);
        }
        boolean usual = lots.nextInt(12) > 0;
        if (!usual) {
            return a;
        }
        int n = Math.max(1, m.now.fishers.size());
        switch (call) {
            case 1: a[0] = lots.nextInt(2); a[1] = a[0] == 0 ? lots.nextInt(1000) : lots.nextInt(65536); break;
            case 4: a[0] = lots.nextInt(m.texts.size()); break;
            case 5: a[0] = lots.nextInt(3); a[1] = lots.nextInt(n); break;
            case 6: a[0] = lots.nextInt(60); a[1] = lots.nextInt(65536) & lots.nextInt(65536); break;
            case 7:
                a[0] = lots.nextInt(n);
                a[1] = lots.nextInt(3);
                a[2] = a[1] == 2 ? lots.nextInt(100) : lots.nextInt(65536);
                break;
            case 13: a[0] = lots.nextInt(1 << n); a[1] = lots.nextInt(4); break;
            case 14: a[0] = lots.nextInt(4); a[1] = lots.nextInt(n); a[2] = lots.nextInt(5); break;
            case 18: a[0] = lots.nextInt(n); a[2] = lots.nextInt(2); break;
            case 15: a[0] = lots.nextInt(4); a[1] = lots.nextInt(n); break;
            case 8: case 9: case 10: case 11: case 16: case 17: case 20: a[0] = lots.nextInt(n); break;
            case 21: case 22: case 23: case 24: case 25: case 26: case 27:
                a[0] = lots.nextInt(4);
                a[1] = lots.nextInt(4);
                a[2] = lots.nextInt(call == 25 ? 1 : n);
                a[3] = lots.nextInt(2);
                break;
            case 28: case 29: a[0] = lots.nextInt(100000); a[1] = lots.nextInt(call == 28 ? 61 : 41); break;
            case 32: a[0] = lots.nextInt(4); a[1] = lots.nextInt(3); a[2] = lots.nextInt(41); break;
            case 33: a[0] = lots.nextInt(4); a[1] = lots.nextInt(20); a[2] = lots.nextInt(3) > 0 ? lots.nextInt(16) : lots.nextInt(); break;
            case 34: a[0] = lots.nextInt(4); a[2] = lots.nextInt(4); break;
            case 35: a[0] = lots.nextInt(4); a[1] = lots.nextInt(4) == 0 ? lots.nextInt(3) : m.sorts[a[0]]; a[3] = lots.nextInt(7); break;
            default: break;
        }
        return a;
    }

    static void texts(NameThrownBack x, Model m, Random lots) {
        StringBuilder t = new StringBuilder();
        for (String part : new String[] {"lets", "lucks", "takes"}) {
            t.append(part).append(' ').append(e(lots, 3)).append(lots.nextInt(3) == 0 ? " ;\n" : ";");
        }
        for (int broken = lots.nextInt(3); broken > 0; broken--) {
            int i = lots.nextInt(t.length());
            String token = TOKENS[lots.nextInt(TOKENS.length)];
            if (lots.nextBoolean()) {
                t.insert(i, lots.nextBoolean() ? " " + token + " " : token);
            } else {
                t.delete(i, Math.min(t.length(), i + 1 + lots.nextInt(4)));
            }
        }
        if (t.length() > 160) {
            t.setLength(160);
        }
        if (m.calls + t.length() + 8 > MOST_CALLS) {
            return;
        }
        m.calls += feeds(x, m, t, lots) + 8;
        int got = x.text();
        Due.is("text " + m.tape, got, m.text());
        if (got > 0 && lots.nextBoolean()) {
            x.force(got);
            m.force(got);
            for (int part = 0; part < 3; part++) {
                x.fisher(part * 10 + 7, 341);
                m.fisher(part * 10 + 7, 341);
                Due.is(t + " part " + part, x.asks(part, 0, 11), m.asks(part, 0, 11));
            }
        }
    }

    /** Feeds a text by one to five bytes each time: how many times. */
    static int feeds(NameThrownBack x, Model m, StringBuilder t, Random lots) {
        int times = 0;
        int n;
        for (int i = 0; i < t.length(); i += n) {
            n = Math.min(1 + lots.nextInt(5), t.length() - i);
            int[] b = new int[5];
            for (int k = 0; k < 5; k++) {
                b[k] = k < n ? t.charAt(i + k) : lots.nextInt(256);
            }
            Due.is("feed", x.feed(n, b[0], b[1], b[2], b[3], b[4]), m.feed(n, b[0], b[1], b[2], b[3], b[4]));
            times++;
        }
        return times;
    }

    static String e(Random lots, int deep) {
        String[] names = {"thing", "known", "kept", "tide", "luck", "more"};
        if (deep == 0 || lots.nextInt(4) == 0) {
            return lots.nextInt(3) == 0 ? "" + lots.nextInt(lots.nextInt(10000) + 1) : names[lots.nextInt(6)];
        }
        String one = e(lots, deep - 1);
        String[] operators = {"or", "and", "<", "=", "+", "-", "*", "*", "+"};
        switch (lots.nextInt(7)) {
            case 0: return "not " + one;
            case 1: return "-" + one;
            case 2: return "(" + one + ")";
            case 3: return "(" + one + " " + operators[lots.nextInt(9)] + " " + e(lots, deep - 1) + ")";
            default: return one + " " + operators[lots.nextInt(9)] + " " + e(lots, deep - 1);
        }
    }
}
