/** Promises 30 to 33. */
public final class LotsTest {
    public static void main(String[] args) {
        drawn();
        drawnByHand();
        drawnRefuses();
        odds();
        image();
        Due.end();
    }

    static NameThrownBack three() {
        NameThrownBack x = new NameThrownBack();
        x.fisher(34, 40);
        x.fisher(47, 7099);
        x.fisher(56, 61000);
        return x;
    }

    /** Each SEASON by a SEED, landed truly on an object of its own. */
    static NameThrownBack landed(long seed, int n) {
        NameThrownBack x = three();
        long lot = seed + 1;
        for (int i = 1; i <= n; i++) {
            lot = lot * 48271 % 2147483647;
            int p = (int) (lot % 6);
            lot = lot * 48271 % 2147483647;
            x.land(p, (int) (lot % 16));
            if (i % 3 == 0) {
                x.tide();
            }
        }
        return x;
    }

    static void drawn() {
        NameThrownBack x = three();
        String was = Due.seen(x);
        int[] seeds = {0, 1, 7, 4711, 99999};
        int[] landings = {0, 1, 2, 3, 4, 30, 59, 60};
        for (int seed : seeds) {
            for (int n : landings) {
                NameThrownBack y = landed(seed, n);
                Due.is("drawn " + seed + ", " + n, x.drawn(seed, n, 0), Integer.bitCount(y.talk(7, 1)));
                Due.is("the sea " + seed + ", " + n, x.drawn(seed, n, 1), y.shore(1, 0));
            }
        }
        Due.holds("it was thought only", was.equals(Due.seen(x)));
    }

    static void drawnByHand() {
        // by seed 1 the first lots are 96542 (2 modulo 6) and 365211588 (4 modulo 16): with three
        // fishers the last one lands thing 4
        NameThrownBack x = new NameThrownBack();
        x.fisher(0, 0);
        x.fisher(0, 0);
        x.shore(1, 6);
        Due.is("nobody lands, and two tides don't go", x.drawn(1, 2, 1), 6);
        x.fisher(0, Due.bits(3, 4, 5));
        Due.is("4 lies there", x.drawn(1, 1, 1), 6 + 16);
        Due.is("3 and 5 are known", x.drawn(1, 1, 0), 2);
        NameThrownBack y = new NameThrownBack();
        y.shore(1, 6);
        Due.is("without fishers", y.drawn(1, 60, 1), 6);
        Due.is("without fishers", y.drawn(1, 60, 0), 0);
        NameThrownBack z = new NameThrownBack();
        z.fisher(0, 0);
        z.shore(1, 65535);
        z.shore(0, 999);
        Due.is("a tide goes whether one landed or not", Integer.bitCount(z.drawn(1, 3, 1)), 15);
    }

    static void drawnRefuses() {
        NameThrownBack x = three();
        Due.is("seed -1", x.drawn(-1, 1, 0), -2);
        Due.is("seed 100000", x.drawn(100000, 1, 0), -2);
        Due.is("n -1", x.drawn(0, -1, 0), -2);
        Due.is("n 61", x.drawn(0, 61, 0), -2);
        Due.is("drawn(2)", x.drawn(0, 1, 2), -2);
        Due.is("drawn(-1)", x.drawn(0, 1, -1), -2);
    }

    static void odds() {
        NameThrownBack x = three();
        for (int least = 0; least <= 16; least++) {
            odds(x, 5, 30, least);
        }
        odds(x, 99999, 40, 12);
        odds(x, 0, 1, 11);
        odds(x, 0, 36, 13);
        Due.is("seed -1", x.odds(-1, 1, 1, 0), NameThrownBack.NO);
        Due.is("seed 100000", x.odds(100000, 1, 1, 0), NameThrownBack.NO);
        Due.is("seeds 0", x.odds(0, 0, 1, 0), NameThrownBack.NO);
        Due.is("seeds 41", x.odds(0, 41, 1, 1), NameThrownBack.NO);
        Due.is("least -1", x.odds(0, 1, -1, 0), NameThrownBack.NO);
        Due.is("least 17", x.odds(0, 1, 17, 0), NameThrownBack.NO);
        Due.is("odds(2)", x.odds(0, 1, 1, 2), NameThrownBack.NO);
        Due.is("odds(-1)", x.odds(0, 1, 1, -1), NameThrownBack.NO);
    }

    static void odds(NameThrownBack x, int seed, int seeds, int least) {
        int many = 0;
        for (int i = 0; i < seeds; i++) {
            if (Integer.bitCount(landed(seed + (long) i, 20).talk(7, 1)) >= least) {
                many++;
            }
        }
        int by = seeds;
        while (many % by != 0 || seeds % by != 0) {
            by--;
        }
        Due.is("odds above " + seed + ", " + seeds + ", " + least, x.odds(seed, seeds, least, 0), many / by);
        Due.is("odds below " + seed + ", " + seeds + ", " + least, x.odds(seed, seeds, least, 1), seeds / by);
    }

    static void image() {
        NameThrownBack x = three();
        Due.is("there is none", x.back(), -3);
        x.put(1, 1, 77);
        x.put(1, 2, 13);
        x.shore(0, 17);
        x.shore(1, 18);
        Due.law(x, "lets 1;lucks 2;takes 3;");
        Due.is("image", x.image(), 3);
        String was = Due.seen(x);
        x.put(0, 0, 1);
        x.put(1, 1, 1);
        x.put(1, 2, 1);
        x.shore(0, 1);
        x.shore(1, 1);
        x.force(0);
        x.fisher(0, 5);
        x.fisher(0, 6);
        Due.is("back", x.back(), 3);
        Due.is("all is as it was", was.equals(Due.seen(x)) ? 1 : 0, 1);
        Due.is("who came is none", x.told(3, 0), -5);
        Due.is("one comes new", x.fisher(45, 9), 3);
        Due.is("and is new", x.told(3, 2), 50);
        Due.is("of another kind", x.told(3, 3), 4);
        Due.text(x, "lets 1;lucks 2;takes 4;");
        Due.feed(x, "xx");
        Due.row(x, 0, 2, 7);
        x.land(0, 0);
        Due.is("back again", x.back(), 3);
        Due.is("texts stay", x.count(3), 3);
        Due.is("so does the tape", x.count(5), 2);
        Due.is("so does a sheet", x.cell(0, 0, 7), 1);
        x.fisher(0, 0);
        Due.is("another image", x.image(), 4);
        x.fisher(0, 0);
        Due.is("is the one", x.back(), 4);
        NameThrownBack y = new NameThrownBack();
        Due.is("an image of nobody", y.image(), 0);
        y.fisher(0, 0);
        Due.is("back to nobody", y.back(), 0);
        Due.is("nobody", y.count(0), 0);
    }
}
