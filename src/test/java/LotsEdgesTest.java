/** The boundary cases of seasons by lots and of images: Terms 2, promises 30 to 33. */
public final class LotsEdgesTest {
    private static final int ALL = 65535;
    /** By this seed no FISHER LOT of the first sixty is 0 modulo 6. */
    private static final int NOT_THE_FIRST = 16326;

    public static void main(String[] args) {
        Sentences.run(LotsEdgesTest.class);
    }

    /** Six fishers: each knows the one name of his number, or each knows all. */
    static NameThrownBack six(boolean all) {
        NameThrownBack x = new NameThrownBack();
        for (int p = 0; p < 6; p++) {
            x.fisher(0, all ? ALL : 1 << p);
        }
        return x;
    }

    /** Terms 2: "SEASONS by a SEED (0 .. 99999), of n landings, in thought": the first and the last seed. */
    static void theFirstAndTheLastSeed() {
        // who lands lets his one name go; of all names the one that is let go has the thing's number
        Untouched.by("by 0: fisher 1", () -> six(false), x -> x.drawn(0, 1, 1), Due.bits(1));
        Untouched.by("by 0: thing 2", () -> six(true), x -> x.drawn(0, 1, 1), Due.bits(2));
        Untouched.by("by 99999: fisher 2", () -> six(false), x -> x.drawn(99999, 1, 1), Due.bits(2));
        Untouched.by("by 99999: thing 7", () -> six(true), x -> x.drawn(99999, 1, 1), Due.bits(7));
        Untouched.by("by 99998: fisher 1", () -> six(false), x -> x.drawn(99998, 1, 1), Due.bits(1));
        Untouched.by("by 99998: thing 5", () -> six(true), x -> x.drawn(99998, 1, 1), Due.bits(5));
    }

    /** Terms 2: "LOTS: the first is (SEED and 1) times 48271 modulo 2147483647, each further one the last times 48271 modulo 2147483647.": beyond 32 bits. */
    static void lotsWrapAtTheirModulo() {
        // by 0: 1 lands 2, 0 lands 13; by 1: 2 lands 4, 5 lands 11; by 99999: 2 lands 7, 3 lands 9
        Untouched.by("by 0", () -> six(false), x -> x.drawn(0, 2, 1), Due.bits(0, 1));
        Untouched.by("by 0", () -> six(true), x -> x.drawn(0, 2, 1), Due.bits(2, 13));
        Untouched.by("by 1", () -> six(false), x -> x.drawn(1, 2, 1), Due.bits(2, 5));
        Untouched.by("by 1", () -> six(true), x -> x.drawn(1, 2, 1), Due.bits(4, 11));
        Untouched.by("by 99999", () -> six(false), x -> x.drawn(99999, 2, 1), Due.bits(2, 3));
        Untouched.by("by 99999", () -> six(true), x -> x.drawn(99999, 2, 1), Due.bits(7, 9));
    }

    /** Terms 2: "FISHER LOT modulo 6, if there is one, LANDS THING the other LOT modulo 16": the first and the last of both. */
    static void lotsOfTheFirstAndTheLast() {
        int[][] lots = {{53, 0, 0}, {22, 5, 15}, {5, 0, 12}, {4, 5, 10}, {7, 2, 0}, {14, 3, 15}};
        for (int[] lot : lots) {
            Due.is("who, by " + lot[0], six(false).drawn(lot[0], 1, 1), 1 << lot[1]);
            Due.is("what, by " + lot[0], six(true).drawn(lot[0], 1, 1), 1 << lot[2]);
        }
    }

    /** Terms 2: "FISHER LOT modulo 6, if there is one": with fewer than six there is none of some lots; with none there is nobody. */
    static void lotsOfThoseWhoAreNotThere() {
        // by 1 fisher 2 lands first
        for (int many = 0; many <= 6; many++) {
            NameThrownBack x = new NameThrownBack();
            for (int p = 0; p < many; p++) {
                x.fisher(0, 1 << p);
            }
            Due.is("of " + many, x.drawn(1, 1, 1), many > 2 ? Due.bits(2) : 0);
            Due.is("names known of " + many, x.drawn(1, 1, 0), many > 2 ? many - 1 : many);
        }
    }

    /** One who knows none and never lands by NOT_THE_FIRST; all names lie in the sea. */
    static NameThrownBack finder() {
        NameThrownBack x = Due.one(0, 0);
        x.shore(1, ALL);
        return x;
    }

    /** Terms 2: "behind each third a TIDE goes.": behind the third, the sixth, not behind those between. */
    static void behindEachThirdATideGoes() {
        int[][] left = {{0, 16}, {1, 16}, {2, 16}, {3, 15}, {4, 15}, {5, 15}, {6, 14}, {44, 2}, {45, 1}, {47, 1}, {48, 0}, {60, 0}};
        for (int[] n : left) {
            Due.is("left behind " + n[0], Integer.bitCount(finder().drawn(NOT_THE_FIRST, n[0], 1)), n[1]);
            Due.is("found behind " + n[0], finder().drawn(NOT_THE_FIRST, n[0], 0), 16 - n[1]);
        }
    }

    /** Terms 2: "In SEASONS by a SEED a TIDE goes behind each third time, whether one landed or not.": one never lands, the first two times nobody does. */
    static void aTideGoesWhetherOneLandedOrNot() {
        Due.is("nobody landed", finder().drawn(NOT_THE_FIRST, 3, 1), ALL - 1);
        NameThrownBack x = six(false);
        x.shore(1, Due.bits(15));
        // by 0: 1, 0, 1 land; names 1 and 0 are let go, then name 0 is found by 0, who has fewest
        Due.is("three landed", x.drawn(0, 3, 1), Due.bits(1, 15));
        Due.is("known", x.drawn(0, 3, 0), 5);
    }

    /** Promise 30: "SEASONS by a SEED of n landings (0 .. 60)": none, and sixty. */
    static void drawnOfNoneAndOfSixty() {
        Untouched.by("none, known", Untouched::busy, x -> x.drawn(0, 0, 0), 7);
        Untouched.by("none, the sea", Untouched::busy, x -> x.drawn(99999, 0, 1), Due.bits(8, 11));
        for (int seed : new int[] {0, 99999}) {
            NameThrownBack y = LotsTest.landed(seed, 60);
            Untouched.by("sixty, known", LotsTest::three, x -> x.drawn(seed, 60, 0), Integer.bitCount(y.talk(7, 1)));
            Untouched.by("sixty, the sea", LotsTest::three, x -> x.drawn(seed, 60, 1), y.shore(1, 0));
        }
    }

    /** Promise 30: "how many NAMES are KNOWN to anybody then (what 0), THE SEA (1; bits).": none, all. */
    static void drawnNoneAndAll() {
        Untouched.by("nobody knows any", Untouched::fresh, x -> x.drawn(5, 60, 0), 0);
        Untouched.by("no name anywhere", Untouched::fresh, x -> x.drawn(5, 60, 1), 0);
        Untouched.by("all", () -> six(true), x -> x.drawn(5, 10, 0), 16);
        Untouched.by("all lie in the sea", () -> {
            NameThrownBack x = new NameThrownBack();
            x.shore(1, ALL);
            return x;
        }, x -> x.drawn(5, 60, 1), ALL);
    }

    /** Promise 30: "BAD.": seed, n, what, each too small and too large. */
    static void drawnRefuses() {
        Untouched.byAll("drawn", Untouched::busy, -2, x -> x.drawn(-1, 1, 0), x -> x.drawn(100000, 1, 0), x -> x.drawn(0, -1, 0),
            x -> x.drawn(0, 61, 0), x -> x.drawn(0, 1, -1), x -> x.drawn(0, 1, 2), x -> x.drawn(Integer.MAX_VALUE, 1, 0),
            x -> x.drawn(0, Integer.MAX_VALUE, 0), x -> x.drawn(-1, 61, 2));
        Untouched.byAll("without anybody", Untouched::fresh, -2, x -> x.drawn(100000, 1, 0), x -> x.drawn(0, 61, 0), x -> x.drawn(0, 0, 2));
    }

    /** How many of the seeds have so many names known behind 20 landings, each landed truly. */
    static int many(int seed, int seeds, int least) {
        int many = 0;
        for (int i = 0; i < seeds; i++) {
            if (Integer.bitCount(LotsTest.landed(seed + (long) i, 20).talk(7, 1)) >= least) {
                many++;
            }
        }
        return many;
    }

    static void odds(int seed, int seeds, int least) {
        int above = many(seed, seeds, least);
        int by = seeds;
        while (above % by != 0 || seeds % by != 0) {
            by--;
        }
        int divides = by;
        Untouched.by("above", LotsTest::three, x -> x.odds(seed, seeds, least, 0), above / divides);
        Untouched.by("below", LotsTest::three, x -> x.odds(seed, seeds, least, 1), seeds / divides);
    }

    /** Promise 31: "By how many of so many (1 .. 40) seeds": one, forty, and between. */
    static void oddsOfOneAndOfForty() {
        for (int least = 9; least <= 14; least++) {
            odds(0, 1, least);
            odds(0, 39, least);
            odds(0, 40, least);
        }
    }

    /** Promise 31: "SEED and each 1 more (they may pass 99999)": the last SEED, and those behind it. */
    static void oddsPass99999() {
        for (int least = 10; least <= 13; least++) {
            odds(99999, 1, least);
            odds(99999, 2, least);
            odds(99999, 40, least);
            odds(99960, 40, least);
        }
    }

    /** Promise 31: "least (0 .. 16) or more NAMES are KNOWN to anybody": none, all. */
    static void oddsOfTheLeast() {
        for (int least = 0; least <= 16; least++) {
            odds(7, 12, least);
        }
        Untouched.by("none of nobody", Untouched::fresh, x -> x.odds(0, 40, 0, 0), 1);
        Untouched.by("one of nobody", Untouched::fresh, x -> x.odds(0, 40, 1, 0), 0);
        // six who know all can't lose one in twenty landings but by six who let the same one go
        Untouched.by("sixteen", () -> six(true), x -> x.odds(0, 1, 16, 0), 1);
    }

    /** Promise 31: "part 0 above, 1 below the line, in lowest terms.": none of forty, all of forty. */
    static void oddsInLowestTerms() {
        Untouched.by("none, above", Untouched::fresh, x -> x.odds(0, 40, 1, 0), 0);
        Untouched.by("none, below", Untouched::fresh, x -> x.odds(0, 40, 1, 1), 1);
        Untouched.by("all, above", Untouched::fresh, x -> x.odds(0, 40, 0, 0), 1);
        Untouched.by("all, below", Untouched::fresh, x -> x.odds(0, 40, 0, 1), 1);
    }

    /** Promise 31: "NO: none such.": seed, seeds, least, part, each too small and too large. */
    static void oddsRefuse() {
        Untouched.byAll("odds", Untouched::busy, NameThrownBack.NO, x -> x.odds(-1, 1, 1, 0), x -> x.odds(100000, 1, 1, 0),
            x -> x.odds(0, 0, 1, 0), x -> x.odds(0, 41, 1, 0), x -> x.odds(0, 1, -1, 0), x -> x.odds(0, 1, 17, 0),
            x -> x.odds(0, 1, 1, -1), x -> x.odds(0, 1, 1, 2), x -> x.odds(0, -1, 1, 1), x -> x.odds(0, Integer.MAX_VALUE, 1, 1),
            x -> x.odds(Integer.MAX_VALUE, 40, 1, 0));
    }

    /** Promise 32: "AN IMAGE is kept: how many FISHERS.": none, six. */
    static void imagesOfNoneAndOfSix() {
        Due.is("none", new NameThrownBack().image(), 0);
        NameThrownBack x = Untouched.full();
        String was = Due.seen(x);
        Due.is("six", x.image(), 6);
        Due.holds("nothing else is otherwise", was.equals(Due.seen(x)));
        Due.is("back to six", x.back(), 6);
        Due.holds("all is as it was", was.equals(Due.seen(x)));
    }

    /** Promise 32: "AN IMAGE is kept": the last one counts; a second one takes the place of the first. */
    static void theLastImageCounts() {
        NameThrownBack x = new NameThrownBack();
        x.image();
        x.fisher(0, 1);
        x.image();
        x.fisher(0, 2);
        Due.is("one", x.back(), 1);
        Due.is("one again", x.back(), 1);
        x.put(0, 0, 5);
        Due.is("what is put behind it is not kept", x.back(), 1);
        Due.is("known", x.told(0, 0), 1);
    }

    interface Change { void on(NameThrownBack x); }

    /** One change behind an image is undone by it, and nothing else. */
    static void undone(String what, Change change) {
        NameThrownBack x = Untouched.busy();
        x.image();
        String was = Due.seen(x);
        change.on(x);
        Due.holds(what + " is otherwise", !was.equals(Due.seen(x)));
        Due.is(what + ", back", x.back(), 3);
        Due.holds(what + " is as it was", was.equals(Due.seen(x)));
    }

    /** Terms 2: "AN IMAGE keeps KNOWN, KEPT, LUCK of all, THE SEA, TIDE, how many FISHERS there are, THE LAW.": each alone. */
    static void whatAnImageKeeps() {
        undone("known of the first", x -> x.put(0, 0, 0));
        undone("known of the last", x -> x.put(2, 0, ALL));
        undone("kept of the first", x -> x.put(0, 1, 0));
        undone("kept of the last", x -> x.put(2, 1, ALL));
        undone("luck of the first", x -> x.put(0, 2, 0));
        undone("luck of the last", x -> x.put(2, 2, 99));
        undone("the sea", x -> x.shore(1, 0));
        undone("tide", x -> x.shore(0, 999));
        undone("how many there are", x -> x.fisher(0, 0));
        undone("the law", x -> x.force(2));
        undone("all of them", x -> {
            x.fish(0, 1);
            x.teach(1, 0);
            x.force(0);
            x.fisher(59, ALL);
        });
    }

    /** Terms 2: "AN IMAGE keeps KNOWN, KEPT, LUCK of all, THE SEA, TIDE, how many FISHERS there are, THE LAW.": the tape, the texts, the sheets it doesn't. */
    static void whatAnImageDoesNotKeep() {
        NameThrownBack x = new NameThrownBack();
        Due.row(x, 1, 0, 1, 2);
        x.image();
        Due.law(x, "lets 9;lucks 8;takes 7;");
        Due.feed(x, "lets");
        Due.row(x, 0, 2, 5, 6);
        x.sheet(1, -1, 0);
        x.back();
        Due.is("the tape", x.count(5), 4);
        Due.is("the texts", x.count(3), 2);
        Due.is("the law", x.count(4), 0);
        Due.is("a sheet that came", x.cell(0, 1, 6), 1);
        Due.is("a sheet that went", x.cell(1, 0, 0), -11);
        x.fisher(0, 0);
        x.force(1);
        Due.is("the text is as it was read", x.asks(1, 0, 0), 8);
    }

    /** Promise 33: "FISHERS that came since are none: how many there are.": none of six; who comes then is new. */
    static void whoCameSinceIsNone() {
        NameThrownBack x = new NameThrownBack();
        x.image();
        for (int p = 0; p < 6; p++) {
            x.fisher(59, ALL);
            x.land(p, p);
        }
        Due.is("none is there", x.back(), 0);
        for (int p = 0; p < 6; p++) {
            Due.is("none", x.told(p, 0), -5);
            Due.is("none", x.taken(p, 0), -11);
        }
        Due.is("the sea", x.count(1), 0);
        for (int p = 0; p < 6; p++) {
            Due.is("six have room", x.fisher(10 * p, 1 << p), p);
            Due.is("luck", x.told(p, 2), 50);
            Due.is("kept", x.told(p, 1), 0);
            Due.is("kind", x.told(p, 3), p);
            Due.is("more", x.told(p, 4), 0);
            Due.is("known", x.told(p, 0), 1 << p);
        }
    }

    /** One who knows and keeps some, when five who knew and kept all came and are none again. */
    static NameThrownBack left() {
        NameThrownBack x = Due.one(0, Due.bits(3));
        x.image();
        for (int p = 1; p < 6; p++) {
            x.fisher(0, ALL);
            x.put(p, 1, ALL);
        }
        x.back();
        x.shore(1, Due.bits(4));
        Due.row(x, 0, 0, 1);
        Due.row(x, 1, 0, 55);
        return x;
    }

    /** Promise 33: "FISHERS that came since are none": nothing of theirs is seen by any call. */
    static void nothingOfThoseWhoCameSince() {
        Untouched.by("taught by whom", LotsEdgesTest::left, x -> x.taught(0, 0), -1);
        Untouched.by("lessons", LotsEdgesTest::left, x -> x.lessons(0, 0, 0), -1);
        Untouched.by("lessons by which", LotsEdgesTest::left, x -> x.lessons(0, 0, 1), -1);
        Untouched.by("when", LotsEdgesTest::left, x -> x.when(5), -1);
        Untouched.by("drawn", LotsEdgesTest::left, x -> x.drawn(1, 1, 0), 1);
        Untouched.by("odds", LotsEdgesTest::left, x -> x.odds(1, 1, 3, 0), 0);
        Untouched.by("whose", LotsEdgesTest::left, x -> x.whose(0, 1), 1);
        Untouched.by("the sea is washed up to the one", LotsEdgesTest::left, x -> x.when(4), 1);
        Untouched.byAll("nobody", LotsEdgesTest::left, -5, x -> x.put(1, 0, 0), x -> x.told(1, 0), x -> x.land(1, 0), x -> x.teach(1, 0),
            x -> x.teach(0, 1), x -> x.season(0, 1, 0), x -> x.fish(0, 1), x -> x.which(1, 0), x -> x.taught(1, 0), x -> x.lessons(1, 0, 0),
            x -> x.judge(0, 1, 1), x -> x.kinds(0, 1, 1, 0), x -> x.turned(0, 1, 1), x -> x.lucks(0, 1, 1, 0), x -> x.laws(0, 1, 1),
            x -> x.film(0, 1, 1));
        Untouched.byAll("no share", LotsEdgesTest::left, NameThrownBack.NO, x -> x.share(1, 0), x -> x.share(5, 1));
        Untouched.byAll("no part", LotsEdgesTest::left, -1000, x -> x.asks(0, 1, 0), x -> x.asks(2, 5, 0));
        Untouched.byAll("no landing", LotsEdgesTest::left, -5000, x -> x.lands(1, 0, 0), x -> x.lands(5, 0, 1));
        Untouched.byAll("no talk", LotsEdgesTest::left, -2, x -> x.talk(2, 1), x -> x.talk(63, 1));
        Untouched.byAll("nothing lies there", LotsEdgesTest::left, -11, x -> x.taken(1, 0), x -> x.taken(7, 6));
    }

    /** Promise 33: "All that it keeps is as in THE IMAGE": twice alike, whatever was done between. */
    static void backTwice() {
        NameThrownBack x = Untouched.busy();
        Due.is("two", x.back(), 2);
        String was = Due.seen(x);
        x.fish(0, 1);
        x.fisher(0, 0);
        x.force(2);
        Due.is("two again", x.back(), 2);
        Due.holds("alike", was.equals(Due.seen(x)));
        Due.is("two once more", x.back(), 2);
        Due.holds("alike", was.equals(Due.seen(x)));
    }

    /** Promise 33: "STATE: there is none.": of a new object, and of one on which much was done. */
    static void backWithoutAnImage() {
        Untouched.by("new", Untouched::fresh, x -> x.back(), -3);
        Untouched.by("with fishers", LotsTest::three, x -> x.back(), -3);
        NameThrownBack x = new NameThrownBack();
        x.back();
        x.image();
        Due.is("there is one then", x.back(), 0);
    }
}
