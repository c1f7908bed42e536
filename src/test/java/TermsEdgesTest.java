/** The boundary cases of Terms 1, up to the texts: things, names, numbers, kinds. */
public final class TermsEdgesTest {
    private static final int NO_NAMES = 0, ALL_NAMES = 65535;

    public static void main(String[] args) {
        Sentences.run(TermsEdgesTest.class);
    }

    /** Terms 1: "THINGS 0 .. 15, each with a NAME". */
    static void thingsAre0To15() {
        NameThrownBack x = Due.one(0, ALL_NAMES);
        Due.is("thing 0", x.land(0, 0), 0);
        Due.is("thing 15, of fifteen names the first", x.land(0, 15), 1);
        Due.is("both are kept", x.told(0, 1), Due.bits(0, 15));
        Untouched.byAll("no thing", Untouched::busy, -6, y -> y.land(0, -1), y -> y.land(0, 16));
    }

    /** Terms 1: "sets of them are told as bits (0 .. 65535)". */
    static void setsAre0To65535() {
        NameThrownBack x = Due.one(0, ALL_NAMES);
        Due.is("known all", x.put(0, 0, NO_NAMES), ALL_NAMES);
        Due.is("known none", x.put(0, 0, ALL_NAMES), NO_NAMES);
        Due.is("kept none", x.put(0, 1, ALL_NAMES), NO_NAMES);
        Due.is("kept all", x.put(0, 1, NO_NAMES), ALL_NAMES);
        Due.is("none in the sea", x.shore(1, ALL_NAMES), NO_NAMES);
        Due.is("all in the sea", x.shore(1, NO_NAMES), ALL_NAMES);
        Due.is("one who knows none", x.fisher(0, NO_NAMES), 1);
        Untouched.byAll("no set of a fisher's", Untouched::busy, -7, y -> y.put(0, 0, -1), y -> y.put(0, 0, 65536),
            y -> y.put(0, 1, -1), y -> y.put(0, 1, 65536));
        Untouched.byAll("no set", Untouched::busy, -2, y -> y.shore(1, -1), y -> y.shore(1, 65536),
            y -> y.fisher(0, -1), y -> y.fisher(0, 65536));
    }

    /** Terms 1: "TIDE (0 .. 999; 0 at first". */
    static void tideIs0To999() {
        NameThrownBack x = new NameThrownBack();
        Due.is("at first", x.count(2), 0);
        Due.is("becomes 999", x.shore(0, 999), 0);
        Due.is("becomes 0", x.shore(0, 0), 999);
        Untouched.byAll("no tide", Untouched::busy, -2, y -> y.shore(0, -1), y -> y.shore(0, 1000));
    }

    /** Terms 1: "in thought it may pass 999": in what is asked by a season. */
    static void seasonsPass999() {
        Due.is("season", atLastTide().season(0, 0, 1), 57);
        Due.is("judge", atLastTide().judge(0, 1, 0), -1);
        Due.is("kinds, half of 7 for a master and a girl", atLastTide().kinds(0, 1, 0, 0), Due.bits(0, 1, 3, 5));
        Due.is("more", atLastTide().kinds(0, 1, 0, 1), 1023);
        Due.is("turned", atLastTide().turned(0, 1, 0), 65535);
        Due.is("lucks", atLastTide().lucks(0, 1, 0, 0), 1);
        Due.is("lucks", atLastTide().lucks(0, 1, 0, 1), 50);
        Due.is("whose", atLastTide().whose(0, 1), 1);
        Due.is("laws", atLastTide().laws(0, 1, 0), Due.bits(1));
        NameThrownBack x = atLastTide();
        x.sheet(1, -1, 0);
        Due.is("film", x.film(0, 1, 0), 2);
        Due.is("is so", x.judge(0, 1, 0), -1);
        Due.is("truly it does not pass", x.fish(0, 0), -3);
        Due.is("nor here", x.tide(), -3);
        Due.is("it is 999", x.count(2), 999);
    }

    /** Terms 1: "in thought it may pass 999": in what is asked by tides and by lots. */
    static void tidesPass999() {
        NameThrownBack x = Due.one(0, NO_NAMES);
        x.shore(0, 999);
        x.shore(1, ALL_NAMES);
        Due.is("when", x.when(-1), 16);
        Due.is("drawn", x.drawn(1, 3, 1), 65534);
        NameThrownBack y = Due.one(0, NO_NAMES);
        y.shore(1, ALL_NAMES);
        for (int least = 0; least <= 16; least++) {
            Due.is("odds are as ever, " + least, x.odds(1, 40, least, 0), y.odds(1, 40, least, 0));
        }
        Due.is("it is 999", x.count(2), 999);
    }

    /** One landing by TIDE 999, one by TIDE 1000: only the second brings luck, 7. */
    static NameThrownBack atLastTide() {
        return atLastTide(Due.one(0, NO_NAMES));
    }

    private static NameThrownBack atLastTide(NameThrownBack x) {
        Due.law(x, "lets 0;lucks (tide = 1000) * 7;takes 0;");
        x.shore(0, 999);
        Due.row(x, 0, 2, 1, 2);
        Due.row(x, 1, 0, 50, 57);
        return x;
    }

    /** Terms 1: "THE SEA: NAMES that lie in it (none at first)". */
    static void theSeaIsEmptyAtFirst() {
        Due.is("no names", new NameThrownBack().count(1), 0);
        Due.is("none of them", new NameThrownBack().shore(1, 0), 0);
        NameThrownBack x = new NameThrownBack();
        x.shore(1, ALL_NAMES);
        Due.is("sixteen at most", x.count(1), 16);
    }

    /** Terms 1: "FISHERS are numbered from 0 on, 6 at most". */
    static void sixFishersAtMost() {
        NameThrownBack x = new NameThrownBack();
        for (int p = 0; p < 6; p++) {
            Due.is("nobody yet", x.told(p, 3), -5);
            Due.is("one comes", x.fisher(0, 0), p);
            Due.is("is there", x.told(p, 3), 0);
        }
        Due.is("six", x.count(0), 6);
        Due.is("none before 0", x.told(-1, 3), -5);
        Untouched.by("a seventh", Untouched::full, y -> y.fisher(0, 0), -4);
    }

    /** Terms 1: "of a KIND, with MORE (0 .. 9)". */
    static void kindsAre0To5AndMore0To9() {
        NameThrownBack x = new NameThrownBack();
        int[] kindMores = {0, 9, 10, 50, 59};
        for (int p = 0; p < kindMores.length; p++) {
            x.fisher(kindMores[p], 0);
            Due.is("kind of " + kindMores[p], x.told(p, 3), kindMores[p] / 10);
            Due.is("more of " + kindMores[p], x.told(p, 4), kindMores[p] % 10);
        }
        Untouched.byAll("of no kind", Untouched::busy, -2, y -> y.fisher(-1, 0), y -> y.fisher(60, 0));
    }

    /** Terms 1: "KEPT: THINGS (none as one comes)". */
    static void nothingIsKeptAsOneComes() {
        NameThrownBack x = Due.one(0, ALL_NAMES);
        Due.is("kept", x.told(0, 1), 0);
        x.image();
        x.fisher(0, 0);
        x.land(1, 3);
        x.back();
        x.fisher(0, 0);
        Due.is("kept by who comes where another one was", x.told(1, 1), 0);
    }

    /** Terms 1: "LUCK (0 .. 99; 50 as one comes)". */
    static void luckIs0To99() {
        NameThrownBack x = Due.one(0, 0);
        Due.is("as one comes", x.put(0, 2, 0), 50);
        Due.is("0", x.put(0, 2, 99), 0);
        Due.is("99", x.put(0, 2, 1), 99);
        x.image();
        x.fisher(0, 0);
        x.put(1, 2, 7);
        x.back();
        x.fisher(0, 0);
        Due.is("of who comes where another one was", x.told(1, 2), 50);
        Untouched.byAll("no luck", Untouched::busy, -7, y -> y.put(0, 2, -1), y -> y.put(0, 2, 100));
    }

    /** What one of a kind lets go of names, by a text that says so much (-99 .. 99). */
    static int lets(int kindMore, int known, int says) {
        NameThrownBack x = Due.one(kindMore, known);
        Due.law(x, says < 0 ? "lets luck-99;lucks 0;takes 0;" : "lets luck;lucks 0;takes 0;");
        x.put(0, 2, says < 0 ? says + 99 : says);
        return x.lands(0, 0, 0);
    }

    /** Terms 1: "by numbers, from 0 on, the text saying so": of five names the first is 0, the last 4. */
    static void namesAreNumberedFrom0() {
        int five = Due.bits(0, 3, 4, 9, 15);
        int[] names = {0, 3, 4, 9, 15};
        for (int n = 0; n < 5; n++) {
            Due.is("number " + n, lets(0, five, n), names[n]);
        }
    }

    /** Terms 1: "0 FISHER: that, modulo how many (0 or more)": a wrap-around at both ends. */
    static void aFisherLetsModulo() {
        int five = Due.bits(1, 3, 4, 9, 15);
        Due.is("4 is the last", lets(0, five, 4), 15);
        Due.is("5 is the first again", lets(0, five, 5), 1);
        Due.is("6", lets(0, five, 6), 3);
        Due.is("99 is 4", lets(0, five, 99), 15);
        Due.is("-1 is 4", lets(0, five, -1), 15);
        Due.is("-4 is 1", lets(0, five, -4), 3);
        Due.is("-5 is 0", lets(0, five, -5), 1);
        Due.is("-6 is 4", lets(0, five, -6), 15);
        Due.is("-99 is 1", lets(0, five, -99), 3);
        Due.is("of one", lets(0, Due.bits(7), -99), 7);
        Due.is("15 of all", lets(0, ALL_NAMES, 15), 15);
        Due.is("16 of all", lets(0, ALL_NAMES, 16), 0);
        Due.is("-16 of all", lets(0, ALL_NAMES, -16), 0);
        Due.is("-17 of all", lets(0, ALL_NAMES, -17), 15);
    }

    /** Terms 1: "1 UNCLE (a FISHER): LETS go that as far from the last one as a FISHER's from the first". */
    static void anUncleCountsFromTheLast() {
        int five = Due.bits(1, 3, 4, 9, 15);
        Due.is("the last", lets(10, five, 0), 15);
        Due.is("the first", lets(10, five, 4), 1);
        Due.is("the middle one", lets(10, five, 2), 4);
        Due.is("5: the last again", lets(10, five, 5), 15);
        Due.is("-1: the first", lets(10, five, -1), 1);
        Due.is("of one", lets(10, Due.bits(7), 98), 7);
        Due.is("of two", lets(10, Due.bits(7, 8), 1), 7);
    }

    /** Terms 1: "LETS go an UNCLE's, but that numbered 1 at least, if there are 2 or more, else the one". */
    static void anOldOneSparesTheFirst() {
        int five = Due.bits(1, 3, 4, 9, 15);
        Due.is("the last", lets(30, five, 0), 15);
        Due.is("an uncle's number 1", lets(30, five, 3), 3);
        Due.is("an uncle's number 0 is too low", lets(30, five, 4), 3);
        Due.is("of two the second", lets(30, Due.bits(7, 8), 0), 8);
        Due.is("of two the second, too", lets(30, Due.bits(7, 8), 1), 8);
        Due.is("the one", lets(30, Due.bits(0), 0), 0);
        Due.is("the one, too", lets(30, Due.bits(15), 1), 15);
    }

    /** Terms 1: "5 MUTE (a FISHER): LETS go that numbered MORE modulo how many". */
    static void aMuteLetsByMore() {
        Due.is("0 of one", lets(50, Due.bits(7), 3), 7);
        Due.is("9 of one", lets(59, Due.bits(7), 3), 7);
        Due.is("9 of eight", lets(59, 255, 3), 1);
        Due.is("9 of nine", lets(59, 511, 3), 0);
        Due.is("9 of ten", lets(59, 1023, 3), 9);
        Due.is("9 of all", lets(59, ALL_NAMES, 3), 9);
        Due.is("0 of all", lets(50, ALL_NAMES, 3), 0);
    }

    /** Terms 1: "(Whatever isn't told is as of the KIND above.": a master, a girl let go as a fisher. */
    static void mastersAndGirlsLetAsFishers() {
        int five = Due.bits(1, 3, 4, 9, 15);
        for (int says = -99; says <= 99; says += 3) {
            Due.is("a master, " + says, lets(29, five, says), lets(0, five, says));
            Due.is("a girl, " + says, lets(49, five, says), lets(0, five, says));
        }
    }

    /** How much one of a kind lucks by thing 0, by a text that says so much (-99 .. 99). */
    static int lucks(int kindMore, boolean named, int says) {
        NameThrownBack x = Due.one(kindMore, named ? Due.bits(0) : Due.bits(1));
        Due.law(x, says < 0 ? "lets 0;lucks luck-99;takes 0;" : "lets 0;lucks luck;takes 0;");
        x.put(0, 2, says < 0 ? says + 99 : says);
        return x.lands(0, 0, 1);
    }

    /** Terms 1: "LUCKS MORE less, if the NAME isn't KNOWN". */
    static void anUncleLucksMoreLess() {
        for (int kind = 10; kind <= 30; kind += 20) {
            Due.is("known", lucks(kind + 9, true, 3), 3);
            Due.is("not known", lucks(kind + 9, false, 3), -6);
            Due.is("not known, more 0", lucks(kind, false, 3), 3);
            Due.is("not known, more 1", lucks(kind + 1, false, 0), -1);
        }
    }

    /** Terms 1: "LUCKS half (cut)": what is cut is what is behind the point. */
    static void aMasterLucksHalf() {
        int[][] halves = {{0, 0}, {1, 0}, {2, 1}, {3, 1}, {4, 2}, {99, 49}, {98, 49}, {-1, 0}, {-2, -1}, {-3, -1}, {-98, -49},
            {-99, -49}};
        for (int[] half : halves) {
            Due.is("half of " + half[0], lucks(29, true, half[0]), half[1]);
            Due.is("half of " + half[0] + ", not known", lucks(29, false, half[0]), half[1]);
        }
    }

    /** Terms 1: "LUCKS MORE, if the NAME is KNOWN, else as a MASTER". */
    static void aGirlLucksMore() {
        Due.is("known, more 0", lucks(40, true, 99), 0);
        Due.is("known, more 9", lucks(49, true, -99), 9);
        Due.is("not known", lucks(49, false, 99), 49);
        Due.is("not known", lucks(49, false, -99), -49);
        Due.is("not known", lucks(49, false, 1), 0);
    }

    /** Terms 1: "(Whatever isn't told is as of the KIND above.": a mute lucks as a fisher. */
    static void aMuteLucksAsAFisher() {
        for (int says = -99; says <= 99; says += 22) {
            Due.is("a fisher's " + says, lucks(9, false, says), says);
            Due.is("a fisher's, known " + says, lucks(9, true, says), says);
            Due.is("a mute's " + says, lucks(59, false, says), says);
            Due.is("a mute's, known " + says, lucks(59, true, says), says);
        }
    }

    /** How many names one of a kind takes, by a text that says so many (0 .. 99), and by a TIDE. */
    static int takes(int kindMore, int says, int tide) {
        NameThrownBack x = Due.one(kindMore, 0);
        Due.law(x, "lets 0;lucks 0;takes luck;");
        x.put(0, 2, says);
        x.shore(0, tide);
        return x.told(0, 6);
    }

    /** Terms 1: "2 MASTER (a FISHER): TAKES MORE more". */
    static void aMasterTakesMoreMore() {
        Due.is("0 and 0", takes(20, 0, 1), 0);
        Due.is("0 and 9", takes(29, 0, 1), 9);
        Due.is("16 and 9", takes(29, 16, 1), 25);
        Due.is("2 and 1", takes(21, 2, 1), 3);
    }

    /** Terms 1: "TAKES as an UNCLE, if TIDE modulo 3 is 0, else 0". */
    static void anOldOneTakesEachThirdTide() {
        int[] tides = {0, 1, 2, 3, 4, 5, 6, 996, 997, 998, 999};
        for (int tide : tides) {
            Due.is("tide " + tide, takes(39, 5, tide), tide % 3 == 0 ? 5 : 0);
            Due.is("an uncle at tide " + tide, takes(19, 5, tide), 5);
        }
    }

    /** Terms 1: "4 GIRL (a MASTER): TAKES twice a MASTER's". */
    static void aGirlTakesTwice() {
        Due.is("0 and 0", takes(40, 0, 1), 0);
        Due.is("0 and 1", takes(41, 0, 1), 2);
        Due.is("16 and 9", takes(49, 16, 1), 50);
    }

    /** Terms 1: "LETS go that numbered MORE modulo how many; TAKES 1.": also where the text says 0, or 16. */
    static void aMuteTakes1() {
        Due.is("0", takes(59, 0, 1), 1);
        Due.is("1", takes(50, 1, 2), 1);
        Due.is("16", takes(55, 16, 0), 1);
    }

    /** Terms 1: "TAKES 0 at least.)". */
    static void takes0AtLeast() {
        int[] due = {0, 0, 9, 0, 18, 1};
        for (int kind = 0; kind < 6; kind++) {
            NameThrownBack x = Due.one(10 * kind + 9, 0);
            Due.law(x, "lets 0;lucks 0;takes -99;");
            Due.is("kind " + kind, x.told(0, 6), due[kind]);
        }
    }

    /** Terms 1: "(lets, lucks -99 .. 99, takes 0 .. 16, else the bound)". */
    static void whatATextSaysIsBounded() {
        int[] says = {-9999, -100, -99, -98, -1, 0, 1, 15, 16, 17, 98, 99, 100, 9999};
        for (int v : says) {
            NameThrownBack x = Due.one(0, 1);
            Due.law(x, "lets " + v + ";lucks " + v + ";takes " + v + ";");
            Due.is("lets " + v, x.asks(0, 0, 0), Math.max(-99, Math.min(99, v)));
            Due.is("lucks " + v, x.asks(1, 0, 0), Math.max(-99, Math.min(99, v)));
            Due.is("takes " + v, x.asks(2, 0, 0), Math.max(0, Math.min(16, v)));
        }
    }

    /** Terms 1: "(lets, lucks -99 .. 99, takes 0 .. 16, else the bound), of a FISHER and a THING": ahead of what a KIND makes of it. */
    static void theBoundIsAheadOfTheKind() {
        NameThrownBack x = Due.one(20, 1);
        Due.law(x, "lets 0;lucks 9999;takes 9999;");
        Due.is("half of 99", x.lands(0, 0, 1), 49);
        x.fisher(29, 1);
        Due.is("16 and 9", x.told(1, 6), 25);
        NameThrownBack y = Due.one(0, 31);
        Due.law(y, "lets 102;lucks 0;takes 0;");
        Due.is("99 modulo 5, not 102", y.lands(0, 0, 0), 4);
    }

    /** Terms 1: "thing: the THING (of takes 0)". */
    static void thingIs0OfTakes() {
        NameThrownBack x = Due.one(0, 1);
        Due.law(x, "lets thing;lucks thing;takes thing+7;");
        for (int thing = 0; thing < 16; thing += 5) {
            Due.is("lets", x.asks(0, 0, thing), thing);
            Due.is("lucks", x.asks(1, 0, thing), thing);
            Due.is("takes", x.asks(2, 0, thing), 7);
        }
        Due.is("takes", x.told(0, 6), 7);
    }

    /** Terms 1: "known: how many NAMES are KNOWN; kept: how many THINGS are KEPT": none, all. */
    static void knownAndKeptAre0To16() {
        NameThrownBack x = Due.one(0, 0);
        Due.law(x, "lets known;lucks kept;takes known;");
        Due.is("known none", x.asks(0, 0, 3), 0);
        Due.is("kept none", x.asks(1, 0, 3), 0);
        x.put(0, 0, ALL_NAMES);
        x.put(0, 1, ALL_NAMES);
        Due.is("known all", x.asks(0, 0, 3), 16);
        Due.is("kept all", x.asks(1, 0, 3), 16);
        Due.is("takes all", x.asks(2, 0, 3), 16);
    }

    /** Terms 1: "tide: TIDE; luck: LUCK; more: MORE": least and most. */
    static void tideLuckAndMore() {
        NameThrownBack x = Due.one(0, 0);
        x.fisher(9, 0);
        Due.law(x, "lets tide-950;lucks luck;takes more;");
        Due.is("tide 0", x.asks(0, 0, 3), -99);
        x.shore(0, 999);
        Due.is("tide 999", x.asks(0, 0, 3), 49);
        Due.is("luck 50", x.asks(1, 0, 3), 50);
        x.put(0, 2, 99);
        Due.is("luck 99", x.asks(1, 0, 3), 99);
        x.put(0, 2, 0);
        Due.is("luck 0", x.asks(1, 0, 3), 0);
        Due.is("more 0", x.asks(2, 0, 3), 0);
        Due.is("more 9", x.asks(2, 1, 3), 9);
    }
}
