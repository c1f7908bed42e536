import java.util.Arrays;
import java.util.Random;

/** The calls by numbers, in the document's order, for runs by lots. */
final class Calls {
    static final int MANY = 37, TEXT = 3, LANDS = 9, FISHERS_BY = 35;

    private static final String[] NAMES = {"count", "shore", "feed", "text", "force", "asks", "fisher", "put", "told", "lands",
        "land", "teach", "tide", "talk", "season", "fish", "which", "taught", "lessons", "when", "share", "judge", "kinds",
        "turned", "lucks", "whose", "laws", "film", "drawn", "odds", "image", "back", "sheet", "cell", "copy", "fishersBy",
        "taken"};
    private static final int[] TAKES = {1, 2, 6, 0, 1, 3, 2, 3, 2, 3, 2, 2, 0, 2, 3, 2, 2, 2, 3, 1, 2, 3, 4, 3, 4, 2, 3, 3, 3, 4,
        0, 0, 3, 3, 5, 4, 2};

    private Calls() { }

    static String name(int call, int[] a) {
        return NAMES[call] + Arrays.toString(Arrays.copyOf(a, TAKES[call]));
    }

    /** Some fishers, sheets and a text, so that a run by lots comes to more than refusals. */
    static void start(NameThrownBack x, Random lots) {
        for (int p = lots.nextInt(7); p > 0; p--) {
            x.fisher(lots.nextInt(60), lots.nextInt(65536));
        }
        for (int s = 0; s < 4; s++) {
            int n = lots.nextInt(41);
            x.sheet(s, lots.nextInt(3), n);
            for (int i = 0; i < n; i++) {
                x.cell(s, i, lots.nextInt(16));
            }
        }
        Due.law(x, "lets thing * 7 - kept; lucks (tide - 3) * 2 - more; takes known = 3 or not luck;");
        x.shore(1, lots.nextInt(65536));
    }

    static long ask(NameThrownBack x, int call, int[] a) {
        switch (call) {
            case 0: return x.count(a[0]);
            case 1: return x.shore(a[0], a[1]);
            case 2: return x.feed(a[0], a[1], a[2], a[3], a[4], a[5]);
            case 3: return x.text();
            case 4: return x.force(a[0]);
            case 5: return x.asks(a[0], a[1], a[2]);
            case 6: return x.fisher(a[0], a[1]);
            case 7: return x.put(a[0], a[1], a[2]);
            case 8: return x.told(a[0], a[1]);
            case 9: return x.lands(a[0], a[1], a[2]);
            case 10: return x.land(a[0], a[1]);
            case 11: return x.teach(a[0], a[1]);
            case 12: return x.tide();
            case 13: return x.talk(a[0], a[1]);
            case 14: return x.season(a[0], a[1], a[2]);
            case 15: return x.fish(a[0], a[1]);
            case 16: return x.which(a[0], a[1]);
            case 17: return x.taught(a[0], a[1]);
            case 18: return x.lessons(a[0], a[1], a[2]);
            case 19: return x.when(a[0]);
            case 20: return x.share(a[0], a[1]);
            case 21: return x.judge(a[0], a[1], a[2]);
            case 22: return x.kinds(a[0], a[1], a[2], a[3]);
            case 23: return x.turned(a[0], a[1], a[2]);
            case 24: return x.lucks(a[0], a[1], a[2], a[3]);
            case 25: return x.whose(a[0], a[1]);
            case 26: return x.laws(a[0], a[1], a[2]);
            case 27: return x.film(a[0], a[1], a[2]);
            case 28: return x.drawn(a[0], a[1], a[2]);
            case 29: return x.odds(a[0], a[1], a[2], a[3]);
            case 30: return x.image();
            case 31: return x.back();
            case 32: return x.sheet(a[0], a[1], a[2]);
            case 33: return x.cell(a[0], a[1], a[2]);
            case 34: return x.copy(a[0], a[1], a[2], a[3], a[4]);
            case 35: return x.fishersBy(a[0], a[1], a[2], a[3]);
            default: return x.taken(a[0], a[1]);
        }
    }
}
