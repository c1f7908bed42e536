/** Promises 1 to 4 and 6 to 11. */
public final class SeaAndFishersTest {
    public static void main(String[] args) {
        newObject();
        count();
        shore();
        feed();
        force();
        asks();
        fisher();
        put();
        told();
        takes();
        lets();
        lucks();
        landsRefuses();
        Due.end();
    }

    static void newObject() {
        NameThrownBack x = new NameThrownBack();
        Due.is("new: fishers", x.count(0), 0);
        Due.is("new: names in the sea", x.count(1), 0);
        Due.is("new: the sea", x.shore(1, 0), 0);
        Due.is("new: tide", x.shore(0, 0), 0);
        Due.is("new: told", x.told(0, 0), -5);
        Due.is("new: back", x.back(), -3);
        for (int s = 0; s < 4; s++) {
            Due.is("new: sheet " + s, x.cell(s, 0, 0), -11);
        }
        x.fisher(0, 7);
        Due.is("text 0 lets", x.asks(0, 0, 13), 13);
        Due.is("text 0 lucks", x.asks(1, 0, 13), 5);
        Due.is("text 0 takes", x.asks(2, 0, 13), 2);
    }

    static void count() {
        NameThrownBack x = new NameThrownBack();
        Due.is("texts at first", x.count(3), 1);
        Due.is("the law at first", x.count(4), 0);
        Due.is("tape at first", x.count(5), 0);
        x.fisher(0, 7);
        x.fisher(0, 7);
        x.shore(1, Due.bits(2, 3, 15));
        x.shore(0, 999);
        Due.law(x, "lets 1;lucks 2;takes 3;");
        Due.feed(x, "lets");
        Due.is("count fishers", x.count(0), 2);
        Due.is("count sea", x.count(1), 3);
        Due.is("count tide", x.count(2), 999);
        Due.is("count texts", x.count(3), 2);
        Due.is("count law", x.count(4), 1);
        Due.is("count tape", x.count(5), 4);
        Due.is("count(-1)", x.count(-1), -2);
        Due.is("count(6)", x.count(6), -2);
    }

    static void shore() {
        NameThrownBack x = new NameThrownBack();
        Due.is("tide was", x.shore(0, 999), 0);
        Due.is("tide was", x.shore(0, 0), 999);
        Due.is("sea was", x.shore(1, 65535), 0);
        Due.is("sea was", x.shore(1, 4), 65535);
        Due.is("tide 1000", x.shore(0, 1000), -2);
        Due.is("tide -1", x.shore(0, -1), -2);
        Due.is("sea 65536", x.shore(1, 65536), -2);
        Due.is("sea -1", x.shore(1, -1), -2);
        Due.is("shore(2)", x.shore(2, 0), -2);
        Due.is("shore(-1)", x.shore(-1, 0), -2);
        Due.is("the sea stays", x.shore(1, 0), 4);
        Due.is("the tide stays", x.count(2), 0);
    }

    static void feed() {
        NameThrownBack x = new NameThrownBack();
        Due.is("feed 5", x.feed(5, 1, 2, 3, 4, 5), 5);
        Due.is("feed 0", x.feed(0, 1, 2, 3, 4, 5), -2);
        Due.is("feed 6", x.feed(6, 1, 2, 3, 4, 5), -2);
        Due.is("feed: a", x.feed(1, 256, 2, 3, 4, 5), -2);
        Due.is("feed: b, which would not come", x.feed(1, 1, -1, 3, 4, 5), -2);
        Due.is("feed: c", x.feed(1, 1, 2, 256, 4, 5), -2);
        Due.is("feed: d", x.feed(1, 1, 2, 3, -1, 5), -2);
        Due.is("feed: e", x.feed(1, 1, 2, 3, 4, 256), -2);
        Due.is("feed 255", x.feed(3, 255, 0, 255, 0, 0), 8);
        for (int i = 0; i < 30; i++) {
            x.feed(5, 32, 32, 32, 32, 32);
        }
        Due.is("tape is 158", x.count(5), 158);
        Due.is("3 have no room", x.feed(3, 32, 32, 32, 32, 32), -4);
        Due.is("bad ahead of full", x.feed(3, 32, 32, 32, 32, 300), -2);
        Due.is("none came", x.count(5), 158);
        Due.is("2 have", x.feed(2, 32, 32, 32, 32, 32), 160);
        Due.is("1 has not", x.feed(1, 32, 32, 32, 32, 32), -4);
        order(5);
        order(4);
        order(3);
        order(2);
        order(1);
    }

    /** The bytes come in their order, and only the first ones: the fault shows where they end. */
    static void order(int n) {
        NameThrownBack x = new NameThrownBack();
        x.feed(n, ' ', 'l', 'e', 't', 's');
        Due.feed(x, "lets".substring(n - 1));
        Due.is("order " + n, Due.text(x, " 1;lucks 2;takes 3;"), 1);
    }

    static void force() {
        NameThrownBack x = new NameThrownBack();
        x.fisher(0, 1);
        Due.is("no text 1", x.force(1), -2);
        Due.is("no text -1", x.force(-1), -2);
        Due.is("force 0", x.force(0), 0);
        Due.text(x, "lets 1;lucks 7;takes 3;");
        Due.is("not yet the law", x.asks(1, 0, 0), 5);
        Due.is("force 1", x.force(1), 0);
        Due.is("it is the law", x.asks(1, 0, 0), 7);
        Due.is("no text 2", x.force(2), -2);
        Due.is("force 0 again", x.force(0), 1);
        Due.is("the law", x.count(4), 0);
    }

    static void asks() {
        NameThrownBack x = new NameThrownBack();
        x.fisher(9, 7);
        x.put(0, 1, Due.bits(1, 2, 3, 4, 5));
        x.put(0, 2, 33);
        x.shore(0, 88);
        Due.law(x, "lets thing + known * 10; lucks kept * 10 + more; takes tide - luck - 50 + thing;");
        Due.is("lets", x.asks(0, 0, 4), 34);
        Due.is("lucks", x.asks(1, 0, 4), 59);
        Due.is("takes, of thing 0", x.asks(2, 0, 4), 5);
        Due.law(x, "lets 100; lucks -100; takes 17;");
        Due.is("lets 99 at most", x.asks(0, 0, 0), 99);
        Due.is("lucks -99 at least", x.asks(1, 0, 0), -99);
        Due.is("takes 16 at most", x.asks(2, 0, 0), 16);
        Due.law(x, "lets -9999; lucks 9999; takes -1;");
        Due.is("lets -99 at least", x.asks(0, 0, 0), -99);
        Due.is("lucks 99 at most", x.asks(1, 0, 0), 99);
        Due.is("takes 0 at least", x.asks(2, 0, 0), 0);
        Due.is("asks part 3", x.asks(3, 0, 0), -1000);
        Due.is("asks part -1", x.asks(-1, 0, 0), -1000);
        Due.is("asks of nobody", x.asks(0, 1, 0), -1000);
        Due.is("asks of -1", x.asks(0, -1, 0), -1000);
        Due.is("asks of thing 16", x.asks(0, 0, 16), -1000);
        Due.is("asks takes of thing -1", x.asks(2, 0, -1), -1000);
    }

    static void fisher() {
        NameThrownBack x = new NameThrownBack();
        Due.is("kindMore 60", x.fisher(60, 0), -2);
        Due.is("kindMore -1", x.fisher(-1, 0), -2);
        Due.is("known 65536", x.fisher(0, 65536), -2);
        Due.is("known -1", x.fisher(0, -1), -2);
        for (int p = 0; p < 6; p++) {
            Due.is("fisher " + p, x.fisher(10 * p + 9 - p, 65535 >> p), p);
        }
        for (int p = 0; p < 6; p++) {
            Due.is("known", x.told(p, 0), 65535 >> p);
            Due.is("kept", x.told(p, 1), 0);
            Due.is("luck", x.told(p, 2), 50);
            Due.is("kind", x.told(p, 3), p);
            Due.is("more", x.told(p, 4), 9 - p);
        }
        Due.is("a seventh", x.fisher(0, 0), -4);
        Due.is("bad ahead of full", x.fisher(60, 0), -2);
    }

    static void put() {
        NameThrownBack x = new NameThrownBack();
        x.fisher(0, 7);
        x.fisher(0, 9);
        Due.is("known was", x.put(0, 0, 65535), 7);
        Due.is("known is", x.told(0, 0), 65535);
        Due.is("kept was", x.put(0, 1, 12), 0);
        Due.is("kept was", x.put(0, 1, 65535), 12);
        Due.is("luck was", x.put(0, 2, 99), 50);
        Due.is("luck was", x.put(0, 2, 0), 99);
        Due.is("luck 100", x.put(0, 2, 100), -7);
        Due.is("luck -1", x.put(0, 2, -1), -7);
        Due.is("known 65536", x.put(0, 0, 65536), -7);
        Due.is("known -1", x.put(0, 0, -1), -7);
        Due.is("kept 65536", x.put(0, 1, 65536), -7);
        Due.is("kept -1", x.put(0, 1, -1), -7);
        Due.is("put(3)", x.put(0, 3, 0), -7);
        Due.is("put(-1)", x.put(0, -1, 0), -7);
        Due.is("nobody ahead", x.put(2, 3, -1), -5);
        Due.is("nobody", x.put(-1, 0, 0), -5);
        Due.is("luck stays", x.told(0, 2), 0);
        Due.is("the other one stays", x.told(1, 0), 9);
    }

    static void told() {
        NameThrownBack x = new NameThrownBack();
        x.fisher(27, Due.bits(0, 1));
        x.put(0, 1, Due.bits(1, 2, 15));
        Due.is("nameless", x.told(0, 5), Due.bits(2, 15));
        Due.is("told(7)", x.told(0, 7), -7);
        Due.is("told(-1)", x.told(0, -1), -7);
        Due.is("nobody ahead", x.told(1, 7), -5);
        Due.is("nobody", x.told(-1, 0), -5);
    }

    static void takes() {
        NameThrownBack x = new NameThrownBack();
        for (int kind = 0; kind < 6; kind++) {
            x.fisher(10 * kind + 7, 0);
        }
        int[] dry = {2, 2, 9, 2, 18, 1};
        int[] wet = {2, 2, 9, 0, 18, 1};
        for (int tide = 0; tide < 7; tide++) {
            x.shore(0, tide);
            for (int p = 0; p < 6; p++) {
                Due.is("takes of " + p + ", tide " + tide, x.told(p, 6), tide % 3 == 0 ? dry[p] : wet[p]);
            }
        }
        Due.law(x, "lets 0; lucks 0; takes 99;");
        int[] most = {16, 16, 23, 16, 46, 1};
        for (int p = 0; p < 6; p++) {
            Due.is("takes most of " + p, x.told(p, 6), most[p]);
        }
    }

    static void lets() {
        NameThrownBack x = new NameThrownBack();
        int known = Due.bits(1, 3, 4, 9, 15);
        for (int kind = 0; kind < 6; kind++) {
            x.fisher(10 * kind + 7, known);
        }
        // of five: that numbered thing modulo 5 is 1 3 4 9 15, from behind 15 9 4 3 1
        int[] six = {3, 9, 3, 9, 3, 4};
        int[] four = {15, 1, 15, 3, 15, 4};
        int[] nil = {1, 15, 1, 15, 1, 4};
        for (int p = 0; p < 6; p++) {
            Due.is("lets six of " + p, x.lands(p, 6, 0), six[p]);
            Due.is("lets four of " + p, x.lands(p, 4, 0), four[p]);
            Due.is("lets nil of " + p, x.lands(p, 0, 0), nil[p]);
        }
        Due.law(x, "lets 0 - thing; lucks 0; takes 0;");
        int[] less = {15, 1, 15, 3, 15, 4};
        for (int p = 0; p < 6; p++) {
            Due.is("lets -1 of " + p, x.lands(p, 1, 0), less[p]);
        }
        for (int p = 0; p < 6; p++) {
            x.put(p, 0, Due.bits(8));
            Due.is("lets the one " + p, x.lands(p, 3, 0), 8);
            x.put(p, 0, 0);
            Due.is("lets none " + p, x.lands(p, 3, 0), -1);
        }
        x.put(3, 0, Due.bits(8, 9));
        Due.is("an old one of two", x.lands(3, 0, 0), 9);
        Due.is("an old one of two", x.lands(3, 1, 0), 9);
    }

    static void lucks() {
        NameThrownBack x = new NameThrownBack();
        for (int kind = 0; kind < 6; kind++) {
            x.fisher(10 * kind + 7, Due.bits(4));
        }
        int[] named = {5, 5, 2, 5, 7, 5};
        int[] strange = {5, -2, 2, -2, 2, 5};
        for (int p = 0; p < 6; p++) {
            Due.is("lucks named " + p, x.lands(p, 4, 1), named[p]);
            Due.is("lucks strange " + p, x.lands(p, 5, 1), strange[p]);
        }
        Due.law(x, "lets 0; lucks -99; takes 0;");
        int[] below = {-99, -106, -49, -106, -49, -99};
        for (int p = 0; p < 6; p++) {
            Due.is("lucks are not bounded, half is cut " + p, x.lands(p, 5, 1), below[p]);
        }
    }

    static void landsRefuses() {
        NameThrownBack x = new NameThrownBack();
        x.fisher(0, 7);
        String was = Due.seen(x);
        Due.is("lands", x.lands(0, 1, 0), 1);
        Due.is("it was only asked", was.equals(Due.seen(x)) ? 1 : 0, 1);
        Due.is("lands(2)", x.lands(0, 1, 2), -7000);
        Due.is("lands(-1)", x.lands(0, 1, -1), -7000);
        Due.is("no thing", x.lands(0, 16, 2), -5000);
        Due.is("no thing", x.lands(0, -1, 0), -5000);
        Due.is("nobody", x.lands(1, 1, 0), -5000);
        Due.is("nobody", x.lands(-1, 1, 0), -5000);
    }
}
