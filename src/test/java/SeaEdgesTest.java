/** The boundary cases of the face and of promises 1 to 4 and 6 to 11. */
public final class SeaEdgesTest {
    public static void main(String[] args) {
        Sentences.run(SeaEdgesTest.class);
    }

    /** The face: "An object is used for at most 512 calls after it has been made": the last one answers as the first. */
    static void the512thCall() {
        NameThrownBack x = new NameThrownBack();
        for (int call = 1; call <= 511; call++) {
            Due.is("call " + call, x.shore(0, call), call - 1);
        }
        Due.is("call 512", x.shore(0, 0), 511);
        NameThrownBack y = new NameThrownBack();
        y.fisher(0, 3);
        y.fisher(0, 0);
        for (int call = 3; call <= 511; call++) {
            Due.is("call " + call, y.land(0, 1), call == 3 ? 1 : call == 4 ? 0 : -1);
        }
        Due.is("call 512", y.told(0, 2), 99);
    }

    /** Promise 1: "No FISHERS, an empty SEA." */
    static void aNewObject() {
        NameThrownBack x = new NameThrownBack();
        Due.is("no fishers", x.count(0), 0);
        Due.is("no names in the sea", x.count(1), 0);
        Due.is("nobody", x.told(0, 0), -5);
        Due.is("nobody kept a season", x.back(), -3);
        for (int s = 0; s < 4; s++) {
            Due.is("no sheet " + s, x.cell(s, 0, 0), -11);
        }
        NameThrownBack y = new NameThrownBack();
        y.fisher(0, 65535);
        y.shore(1, 5);
        Due.is("one object is not another one", x.count(0) + x.count(1), 0);
    }

    /** Promise 2: "0 FISHERS, 1 NAMES in THE SEA, 2 TIDE, 3 TEXTS, 4 THE LAW, 5 bytes of THE TAPE.": each empty. */
    static void countsOfANewObject() {
        int[] due = {0, 0, 0, 1, 0, 0};
        for (int what = 0; what < 6; what++) {
            Due.is("count " + what, new NameThrownBack().count(what), due[what]);
        }
    }

    /** Promise 2: "0 FISHERS, 1 NAMES in THE SEA, 2 TIDE, 3 TEXTS, 4 THE LAW, 5 bytes of THE TAPE.": each full. */
    static void countsOfAFullOne() {
        NameThrownBack x = Untouched.full();
        x.shore(0, 999);
        x.force(5);
        int[] due = {6, 16, 999, 6, 5, 160};
        for (int what = 0; what < 6; what++) {
            Due.is("count " + what, x.count(what), due[what]);
        }
    }

    /** Promise 2: "BAD.": one below, one above, and far off. */
    static void countRefuses() {
        Untouched.byAll("count", Untouched::busy, -2, x -> x.count(-1), x -> x.count(6), x -> x.count(Integer.MIN_VALUE),
            x -> x.count(Integer.MAX_VALUE));
    }

    /** Promise 2: "0 FISHERS, 1 NAMES in THE SEA, 2 TIDE, 3 TEXTS, 4 THE LAW, 5 bytes of THE TAPE.": asking changes nothing. */
    static void countChangesNothing() {
        int[] due = {3, 2, 17, 3, 1, 22};
        for (int k = 0; k < 6; k++) {
            int what = k;
            Untouched.by("count " + what, Untouched::busy, x -> x.count(what), due[what]);
        }
    }

    /** Promise 3: "TIDE (what 0), THE SEA (1; bits) becomes v: what it was.": the least, the most. */
    static void shoreTakesTheEnds() {
        NameThrownBack x = new NameThrownBack();
        Due.is("tide 0", x.shore(0, 0), 0);
        Due.is("tide 999", x.shore(0, 999), 0);
        Due.is("tide was 999", x.shore(0, 998), 999);
        Due.is("tide is 998", x.count(2), 998);
        Due.is("the sea all", x.shore(1, 65535), 0);
        Due.is("the sea none", x.shore(1, 0), 65535);
        Due.is("the sea the last", x.shore(1, 32768), 0);
        Due.is("one name", x.count(1), 1);
        Due.is("the tide is as it was", x.count(2), 998);
    }

    /** Promise 3: "BAD.": what, v, each too small and too large. */
    static void shoreRefuses() {
        Untouched.byAll("shore", Untouched::busy, -2, x -> x.shore(-1, 0), x -> x.shore(2, 0), x -> x.shore(0, -1),
            x -> x.shore(0, 1000), x -> x.shore(1, -1), x -> x.shore(1, 65536), x -> x.shore(0, Integer.MAX_VALUE),
            x -> x.shore(1, Integer.MIN_VALUE), x -> x.shore(2, -1));
    }

    /** Promise 4: "The first n (1 .. 5) of five bytes": one, each number of them, all five. */
    static void feedTakesTheFirstN() {
        for (int n = 1; n <= 5; n++) {
            NameThrownBack x = new NameThrownBack();
            Due.is("the first " + n, x.feed(n, 'l', 'e', 't', 's', '@'), n);
            Due.is("are on the tape", x.count(5), n);
            Due.is("in their order", x.text(), n < 4 ? -100 : -104);
        }
        Untouched.byAll("feed n", Untouched::busy, -2, x -> x.feed(0, 1, 2, 3, 4, 5), x -> x.feed(6, 1, 2, 3, 4, 5),
            x -> x.feed(-1, 1, 2, 3, 4, 5), x -> x.feed(Integer.MIN_VALUE, 1, 2, 3, 4, 5),
            x -> x.feed(Integer.MAX_VALUE, 1, 2, 3, 4, 5));
    }

    /** Promise 4: "five bytes (0 .. 255 each)": 0 and 255 are taken, -1 and 256 not. */
    static void feedTakesBytes() {
        NameThrownBack x = new NameThrownBack();
        Due.is("0", x.feed(5, 0, 0, 0, 0, 0), 5);
        Due.is("255", x.feed(5, 255, 255, 255, 255, 255), 10);
        Due.is("0 begins no token", x.text(), -100);
        for (int place = 0; place < 5; place++) {
            int[] a = {'l', 'e', 't', 's', ' '};
            for (int b : new int[] {-1, 256, Integer.MIN_VALUE, Integer.MAX_VALUE}) {
                a[place] = b;
                Untouched.by("byte " + b + " at " + place, Untouched::busy, y -> y.feed(5, a[0], a[1], a[2], a[3], a[4]), -2);
            }
        }
    }

    /** Promise 4: "BAD: n, any of the five": those behind the first n, too. */
    static void feedLooksAtAllFive() {
        Untouched.byAll("a byte behind n", Untouched::busy, -2, x -> x.feed(1, 'a', 256, 0, 0, 0), x -> x.feed(1, 'a', 0, -1, 0, 0),
            x -> x.feed(1, 'a', 0, 0, 256, 0), x -> x.feed(1, 'a', 0, 0, 0, -1), x -> x.feed(4, 'a', 0, 0, 0, 256));
    }

    /** Promise 4: "come behind THE TAPE's, one by one: how many it has.": on and on, up to 160. */
    static void feedAnswersHowManyItHas() {
        NameThrownBack x = new NameThrownBack();
        int due = 0;
        for (int n = 1; due + n <= 160; n = n % 5 + 1) {
            due += n;
            Due.is("fed " + n, x.feed(n, 'a', 'a', 'a', 'a', 'a'), due);
        }
        Due.is("the last one that has room", due < 160 ? x.feed(160 - due, 'a', 'a', 'a', 'a', 'a') : 160, 160);
    }

    /** A tape that has so many bytes: blanks, but the first. */
    static NameThrownBack tapeOf(int size) {
        NameThrownBack x = new NameThrownBack();
        Due.feed(x, "x");
        while (x.count(5) < size) {
            x.feed(Math.min(5, size - x.count(5)), ' ', ' ', ' ', ' ', ' ');
        }
        return x;
    }

    /** Promise 4: "FULL: they have not all room (none comes).": as many as have room come, one more doesn't. */
    static void feedIsFull() {
        for (int n = 1; n <= 5; n++) {
            int many = n;
            Due.is("just room for " + n, tapeOf(160 - n).feed(n, 'a', 'a', 'a', 'a', 'a'), 160);
            Untouched.by("room for one less than " + n, () -> tapeOf(161 - many), x -> x.feed(many, 'a', 'a', 'a', 'a', 'a'), -4);
        }
        Untouched.by("no room", () -> tapeOf(160), x -> x.feed(1, 'a', 'a', 'a', 'a', 'a'), -4);
        Due.is("of five bytes just the first has room", tapeOf(159).feed(1, 'a', 'a', 'a', 'a', 'a'), 160);
    }

    /** Promise 4: "BAD: n, any of the five; FULL: they have not all room": BAD is ahead of FULL. */
    static void feedBadAheadOfFull() {
        Untouched.byAll("both", () -> tapeOf(160), -2, x -> x.feed(0, 'a', 'a', 'a', 'a', 'a'), x -> x.feed(6, 'a', 'a', 'a', 'a', 'a'),
            x -> x.feed(1, 256, 'a', 'a', 'a', 'a'), x -> x.feed(1, 'a', 'a', 'a', 'a', -1));
    }

    /** Promise 6: "A TEXT is THE LAW: which was.": the first, the last, the one that is. */
    static void forceTakesEachText() {
        NameThrownBack x = Untouched.full();
        Due.is("the last", x.force(5), 0);
        Due.is("the same", x.force(5), 5);
        Due.is("the first", x.force(0), 5);
        Due.is("it is", x.count(4), 0);
        NameThrownBack y = new NameThrownBack();
        Due.is("the only one", y.force(0), 0);
    }

    /** Promise 6: "BAD.": one below the first, one above the last, of one, of some, of six. */
    static void forceRefuses() {
        Untouched.byAll("of one", Untouched::fresh, -2, x -> x.force(-1), x -> x.force(1));
        Untouched.byAll("of three", Untouched::busy, -2, x -> x.force(-1), x -> x.force(3));
        Untouched.byAll("of six", Untouched::full, -2, x -> x.force(-1), x -> x.force(6), x -> x.force(Integer.MAX_VALUE));
    }

    /** Promise 7: "What part 0 lets, 1 lucks, 2 takes says of a FISHER and a THING.": the first and last of each. */
    static void asksOfTheEnds() {
        Untouched.by("lets", Untouched::busy, x -> x.asks(0, 0, 0), 1);
        Untouched.by("lets", Untouched::busy, x -> x.asks(0, 2, 15), 16);
        Untouched.by("lucks, whatever the kind", Untouched::busy, x -> x.asks(1, 1, 15), -4);
        Untouched.by("takes, whatever the kind", Untouched::busy, x -> x.asks(2, 2, 0), 3);
        Due.is("the sixth fisher", Untouched.full().asks(1, 5, 15), 5);
    }

    /** Promise 7: "-1000: none such.": part, FISHER, THING, each too small and too large; nobody there. */
    static void asksRefuses() {
        Untouched.byAll("asks", Untouched::busy, -1000, x -> x.asks(-1, 0, 0), x -> x.asks(3, 0, 0), x -> x.asks(0, -1, 0),
            x -> x.asks(0, 3, 0), x -> x.asks(0, 0, -1), x -> x.asks(0, 0, 16), x -> x.asks(2, 0, 16), x -> x.asks(3, 3, 16));
        Untouched.by("nobody is there", Untouched::fresh, x -> x.asks(0, 0, 0), -1000);
        Untouched.by("of six", Untouched::full, x -> x.asks(0, 6, 0), -1000);
    }

    /** Promise 8: "A FISHER (kindMore: 10 times KIND, and MORE; known: KNOWN, bits): the number.": the least, the most. */
    static void fisherOfTheEnds() {
        NameThrownBack x = new NameThrownBack();
        Due.is("the first", x.fisher(0, 0), 0);
        Due.is("the second", x.fisher(59, 65535), 1);
        Due.is("kind 0", x.told(0, 3), 0);
        Due.is("more 0", x.told(0, 4), 0);
        Due.is("known none", x.told(0, 0), 0);
        Due.is("kind 5", x.told(1, 3), 5);
        Due.is("more 9", x.told(1, 4), 9);
        Due.is("known all", x.told(1, 0), 65535);
    }

    /** Promise 8: "BAD; FULL.": BAD is ahead of FULL. */
    static void fisherRefuses() {
        Untouched.byAll("bad", Untouched::busy, -2, x -> x.fisher(-1, 0), x -> x.fisher(60, 0), x -> x.fisher(0, -1),
            x -> x.fisher(0, 65536), x -> x.fisher(Integer.MAX_VALUE, 0), x -> x.fisher(0, Integer.MIN_VALUE));
        Untouched.by("full", Untouched::full, x -> x.fisher(0, 0), -4);
        Untouched.byAll("bad and full", Untouched::full, -2, x -> x.fisher(-1, 0), x -> x.fisher(60, 0), x -> x.fisher(0, -1),
            x -> x.fisher(0, 65536));
    }

    /** Promise 9: "KNOWN (what 0; bits), KEPT (1; bits), LUCK (2) becomes v: what it was.": the least, the most, of one only. */
    static void putTakesTheEnds() {
        NameThrownBack x = Untouched.full();
        Due.is("known all", x.put(5, 0, 65535), Due.bits(5, 10, 15));
        Due.is("known none", x.put(5, 0, 0), 65535);
        Due.is("kept all", x.put(5, 1, 65535), 0);
        Due.is("kept none", x.put(5, 1, 0), 65535);
        Due.is("luck 99", x.put(5, 2, 99), 50);
        Due.is("luck 0", x.put(5, 2, 0), 99);
        Due.is("is 0", x.told(5, 2), 0);
        Due.is("known is none", x.told(5, 0), 0);
        Due.is("kept is none", x.told(5, 1), 0);
        Due.is("the one ahead", x.told(4, 0), Due.bits(4, 9, 14));
        Due.is("the one ahead", x.told(4, 2), 50);
    }

    /** Promise 9: "-7: what, v.": each too small and too large. */
    static void putRefusesWhatAndV() {
        Untouched.byAll("put", Untouched::busy, -7, x -> x.put(0, -1, 0), x -> x.put(0, 3, 0), x -> x.put(0, 0, -1),
            x -> x.put(0, 0, 65536), x -> x.put(0, 1, -1), x -> x.put(0, 1, 65536), x -> x.put(0, 2, -1), x -> x.put(0, 2, 100));
    }

    /** Promise 9: "-5: none such; -7: what, v.": -5 is ahead. */
    static void putRefusesNobodyAhead() {
        Untouched.byAll("nobody", Untouched::busy, -5, x -> x.put(-1, 0, 0), x -> x.put(3, 0, 0), x -> x.put(3, 3, 0),
            x -> x.put(-1, 2, 100), x -> x.put(Integer.MAX_VALUE, 0, 0));
        Untouched.by("nobody is there", Untouched::fresh, x -> x.put(0, 0, 0), -5);
        Untouched.by("of six", Untouched::full, x -> x.put(6, 0, 0), -5);
    }

    /** Promise 10: "What 0 KNOWN (bits), 1 KEPT (bits), 2 LUCK, 3 KIND, 4 MORE": each, of the first and the last one; nothing is changed. */
    static void toldOfTheEnds() {
        int[] first = {Due.bits(2, 5, 9), Due.bits(2, 6), 50, 1, 4, Due.bits(6), 3};
        int[] last = {Due.bits(4), 0, 50, 4, 3, 0, 12};
        for (int k = 0; k < 7; k++) {
            int what = k;
            Untouched.by("told " + what, Untouched::busy, x -> x.told(0, what), first[what]);
            Untouched.by("told " + what, Untouched::busy, x -> x.told(2, what), last[what]);
        }
    }

    /** Promise 10: "5 what is KEPT, its NAME not KNOWN (bits)": none kept, all kept, all known, none known. */
    static void toldWhatHasNoName() {
        NameThrownBack x = Due.one(0, 0);
        Due.is("none kept, none known", x.told(0, 5), 0);
        x.put(0, 1, 65535);
        Due.is("all kept, none known", x.told(0, 5), 65535);
        x.put(0, 0, 65535);
        Due.is("all kept, all known", x.told(0, 5), 0);
        x.put(0, 1, 0);
        Due.is("none kept, all known", x.told(0, 5), 0);
        x.put(0, 1, 32769);
        x.put(0, 0, 32766);
        Due.is("the first and the last", x.told(0, 5), 32769);
    }

    /** Promise 10: "6 how many NAMES one TAKES.": none, and the most there can be. */
    static void toldHowManyOneTakes() {
        NameThrownBack x = Due.one(49, 0);
        x.fisher(39, 0);
        Due.law(x, "lets 0;lucks 0;takes 99;");
        Due.is("most", x.told(0, 6), 50);
        Due.is("an old one", x.told(1, 6), 16);
        x.shore(0, 998);
        Due.is("none", x.told(1, 6), 0);
    }

    /** Promise 10: "-5: none such; -7: what.": each too small and too large; -5 is ahead. */
    static void toldRefuses() {
        Untouched.byAll("what", Untouched::busy, -7, x -> x.told(0, -1), x -> x.told(2, 7), x -> x.told(0, Integer.MAX_VALUE));
        Untouched.byAll("nobody", Untouched::busy, -5, x -> x.told(-1, 0), x -> x.told(3, 0), x -> x.told(3, 7), x -> x.told(-1, -1));
        Untouched.by("nobody is there", Untouched::fresh, x -> x.told(0, 0), -5);
        Untouched.by("of six", Untouched::full, x -> x.told(6, 0), -5);
    }

    /** Promise 11: "which NAME one LETS go (what 0; -1: none)": one who knows none, one, all. */
    static void landsLetsNone() {
        Untouched.by("none known", () -> Due.one(0, 0), x -> x.lands(0, 3, 0), -1);
        Untouched.by("none known to an uncle", () -> Due.one(19, 0), x -> x.lands(0, 3, 0), -1);
        Untouched.by("none known to an old one", () -> Due.one(39, 0), x -> x.lands(0, 3, 0), -1);
        Untouched.by("none known to a mute", () -> Due.one(59, 0), x -> x.lands(0, 3, 0), -1);
        Untouched.by("name 0", () -> Due.one(0, 1), x -> x.lands(0, 15, 0), 0);
        Untouched.by("name 15", () -> Due.one(0, 32768), x -> x.lands(0, 0, 0), 15);
        Untouched.by("of all the last", () -> Due.one(0, 65535), x -> x.lands(0, 15, 0), 15);
    }

    /** Promise 11: "how much one LUCKS (1)": it is not bounded as LUCK is. */
    static void landsLucksUnbounded() {
        NameThrownBack x = Due.one(19, 0);
        Due.law(x, "lets 0;lucks -99;takes 0;");
        Due.is("below", x.lands(0, 0, 1), -108);
        x.put(0, 2, 0);
        Due.is("also where luck is 0", x.lands(0, 15, 1), -108);
        NameThrownBack y = Due.one(0, 0);
        Due.law(y, "lets 0;lucks 99;takes 0;");
        y.put(0, 2, 99);
        Due.is("also where luck is 99", y.lands(0, 0, 1), 99);
    }

    /** Promise 11: "Did one LAND a THING now": one that is kept, too; nothing is changed. */
    static void landsIsThoughtOnly() {
        Untouched.by("kept, it lets", Untouched::busy, x -> x.lands(0, 2, 0), 9);
        Untouched.by("kept, it lucks", Untouched::busy, x -> x.lands(0, 2, 1), -1);
        Untouched.by("not kept, not known", Untouched::busy, x -> x.lands(0, 3, 1), -5);
    }

    /** Promise 11: "-5000: no such one, THING; -7000: what.": each too small and too large; -5000 is ahead. */
    static void landsRefuses() {
        Untouched.byAll("nobody, no thing", Untouched::busy, -5000, x -> x.lands(-1, 0, 0), x -> x.lands(3, 0, 0),
            x -> x.lands(0, -1, 0), x -> x.lands(0, 16, 1), x -> x.lands(3, 0, 2), x -> x.lands(0, 16, -1), x -> x.lands(3, 16, 2));
        Untouched.byAll("what", Untouched::busy, -7000, x -> x.lands(0, 0, -1), x -> x.lands(2, 15, 2));
        Untouched.by("nobody is there", Untouched::fresh, x -> x.lands(0, 0, 0), -5000);
        Untouched.by("of six", Untouched::full, x -> x.lands(6, 0, 0), -5000);
    }
}
