/** The boundary cases of landing, teaching, tides, seasons: Terms 2, promises 12 to 17. */
public final class LandingEdgesTest {
    private static final int ALL = 65535;

    public static void main(String[] args) {
        Sentences.run(LandingEdgesTest.class);
    }

    /** Terms 2: "One LANDS a THING (all told ahead)": by what is KNOWN, KEPT, LUCK ahead of the landing. */
    static void allIsToldAhead() {
        NameThrownBack x = Due.one(19, Due.bits(3));
        Due.is("the last name goes, and it is the thing's", x.land(0, 3), 3);
        Due.is("it was known yet: not MORE less", x.told(0, 2), 55);
        NameThrownBack y = Due.one(0, Due.bits(0, 1));
        Due.law(y, "lets kept;lucks known+kept;takes 0;");
        Due.is("none was kept", y.land(0, 9), 0);
        Due.is("two were known, none was kept", y.told(0, 2), 52);
        NameThrownBack z = Due.one(0, Due.bits(0, 1));
        Due.law(z, "lets luck;lucks 1;takes 0;");
        Due.is("luck was 50", z.land(0, 9), 0);
    }

    /** Terms 2: "it is KEPT": also one that is KEPT already; up to all sixteen. */
    static void itIsKept() {
        NameThrownBack x = Due.one(0, 0);
        for (int thing = 0; thing < 16; thing++) {
            x.land(0, thing);
            x.land(0, thing);
            Due.is("kept up to " + thing, x.told(0, 1), (2 << thing) - 1);
        }
        x.land(0, 15);
        Due.is("all are kept", x.told(0, 1), ALL);
    }

    /** Terms 2: "the NAME one LETS go (of a THING that is KEPT or not) isn't KNOWN to one any more, and lies in THE SEA". */
    static void theNameGoes() {
        NameThrownBack x = Due.one(0, Due.bits(0, 15));
        x.put(0, 1, Due.bits(15));
        Due.is("of a thing that is kept", x.land(0, 1), 15);
        Due.is("lies in the sea", x.shore(1, Due.bits(0, 15)), Due.bits(15));
        Due.is("of a thing that isn't, and lies there already", x.land(0, 1), 0);
        Due.is("lies there once", x.count(1), 2);
        Due.is("none is known", x.told(0, 0), 0);
    }

    /** Terms 2: "(who has none KNOWN, lets go none)": of each KIND. */
    static void whoKnowsNoneLetsGoNone() {
        for (int kind = 0; kind < 6; kind++) {
            NameThrownBack x = Due.one(10 * kind + 7, 0);
            x.shore(1, Due.bits(4));
            Due.is("kind " + kind, x.land(0, 5), -1);
            Due.is("kept", x.told(0, 1), Due.bits(5));
            Due.is("the sea is as it was", x.shore(1, 0), Due.bits(4));
            Due.is("none known", x.told(0, 0), 0);
        }
    }

    /** LUCK behind a landing of one of a kind who knows none, by a text that lucks so much. */
    static int luck(int kindMore, int luck, int lucks) {
        NameThrownBack x = Due.one(kindMore, 0);
        Due.law(x, "lets 0;lucks " + lucks + ";takes 0;");
        x.put(0, 2, luck);
        x.land(0, 7);
        return x.told(0, 2);
    }

    /** Terms 2: "LUCK is more by what one LUCKS (0 .. 99, else the bound)". */
    static void luckIsBounded() {
        Due.is("to 98", luck(0, 97, 1), 98);
        Due.is("to 99", luck(0, 98, 1), 99);
        Due.is("not to 100", luck(0, 99, 1), 99);
        Due.is("from 0 to 99", luck(0, 0, 99), 99);
        Due.is("not from 1 to 100", luck(0, 1, 99), 99);
        Due.is("to 1", luck(0, 2, -1), 1);
        Due.is("to 0", luck(0, 1, -1), 0);
        Due.is("not to -1", luck(0, 0, -1), 0);
        Due.is("from 99 to 0", luck(0, 99, -99), 0);
        Due.is("not from 98 to -1", luck(0, 98, -99), 0);
        Due.is("far below", luck(19, 99, -99), 0);
        Due.is("by 0", luck(0, 50, 0), 50);
    }

    /** Terms 2: "What LUCKS come to is not bounded (LUCK is), nor what TAKES come to, but below by 0.": beyond what a text says. */
    static void lucksAndTakesAreNotBounded() {
        NameThrownBack x = Due.one(19, 0);
        x.fisher(49, 0);
        Due.law(x, "lets 0;lucks -99;takes 16;");
        Due.is("lucks", x.lands(0, 0, 1), -108);
        Due.is("takes", x.told(1, 6), 50);
        Due.law(x, "lets 0;lucks 0;takes -16;");
        Due.is("takes of a text's 0", x.told(0, 6), 0);
    }

    /** Terms 2: "A LESSON of one to another one: of the NAMES that are KNOWN to the one and not to the other one the least, as many as the other one TAKES". */
    static void aLessonIsOfTheLeast() {
        for (int takes = 0; takes <= 16; takes++) {
            NameThrownBack x = Due.one(0, ALL - 1);
            x.fisher(0, Due.bits(2));
            Due.law(x, "lets 0;lucks 0;takes " + takes + ";");
            int due = 0;
            for (int name = 1, left = takes; name < 16 && left > 0; name++) {
                if (name != 2) {
                    due |= 1 << name;
                    left--;
                }
            }
            Due.is("takes " + takes, x.teach(0, 1), due);
            Due.is("known", x.told(1, 0), due | Due.bits(2));
            Due.is("and to who taught", x.told(0, 0), ALL - 1);
        }
    }

    /** Terms 2: "as many as the other one TAKES, are KNOWN to that one, too": fewer, if there are fewer; none, if there is none. */
    static void aLessonOfFewer() {
        NameThrownBack x = Due.one(0, Due.bits(15));
        x.fisher(49, 0);
        Due.is("one", x.teach(0, 1), Due.bits(15));
        Due.is("none", x.teach(0, 1), 0);
        Due.is("none of who knows none that is strange", x.teach(1, 0), 0);
        x.put(0, 0, ALL);
        Due.is("of all the least 22, which are 15", x.teach(0, 1), ALL - Due.bits(15));
        x.put(0, 0, 0);
        Due.is("of none none", x.teach(0, 1), 0);
        NameThrownBack y = Due.one(0, ALL);
        y.fisher(30, 0);
        y.shore(0, 1);
        Due.is("who takes 0", y.teach(0, 1), 0);
        Due.is("knows none", y.told(1, 0), 0);
    }

    /** Terms 2: "A TIDE goes: TIDE is 1 more; is there anybody, and any NAME in THE SEA": neither, one, the other. */
    static void aTideWithoutAnybodyOrAnything() {
        NameThrownBack x = new NameThrownBack();
        Due.is("neither", x.tide(), -1);
        x.shore(1, ALL);
        Due.is("nobody", x.tide(), -1);
        Due.is("all lie there", x.count(1), 16);
        x.fisher(0, 0);
        Due.is("both", x.tide(), 0);
        x.shore(1, 0);
        Due.is("no name", x.tide(), -1);
        Due.is("each time the tide went", x.count(2), 4);
        Due.is("known", x.told(0, 0), 1);
    }

    /** Terms 2: "without FISHERS a TIDE goes, too.": in thought as well. */
    static void aTideGoesWithoutFishers() {
        NameThrownBack x = new NameThrownBack();
        x.shore(1, ALL);
        Due.is("tide", x.tide(), -1);
        Due.is("it went", x.count(2), 1);
        Due.is("when", x.when(-1), -1);
        Due.is("drawn", x.drawn(5, 60, 1), ALL);
    }

    /** Terms 2: "the least is in it no more": the first of all, the last one alone. */
    static void theLeastIsWashedUp() {
        NameThrownBack x = Due.one(0, 0);
        x.shore(1, ALL);
        for (int name = 0; name < 16; name++) {
            Due.is("the least", x.tide(), name);
            Due.is("left", x.count(1), 15 - name);
        }
        Due.is("none is left", x.tide(), -1);
        Due.is("all are known", x.told(0, 0), ALL);
    }

    /** Terms 2: "KNOWN to who has fewest NAMES KNOWN, of like ones the first.": the first, the last, all alike. */
    static void whoHasFewest() {
        NameThrownBack x = Untouched.full();
        Due.is("all alike", x.tide(), 0);
        Due.is("the first knew it", x.told(0, 0), Due.bits(0, 5, 10));
        Due.is("and has fewest still", x.tide(), 1);
        Due.is("it is known", x.told(0, 0), Due.bits(0, 1, 5, 10));
        Due.is("then the second", x.tide(), 2);
        Due.is("it is known", x.told(1, 0), Due.bits(1, 2, 6, 11));
        x.put(5, 0, Due.bits(9));
        Due.is("the last", x.tide(), 3);
        Due.is("it is known", x.told(5, 0), Due.bits(3, 9));
        x.put(4, 0, 0);
        Due.is("who has none", x.tide(), 4);
        Due.is("it is known", x.told(4, 0), Due.bits(4));
    }

    /** Terms 2: "By a TIDE that NAME is KNOWN to who has fewest, also if that one knew it": it is washed up nonetheless. */
    static void whoHasFewestKnewIt() {
        NameThrownBack x = Due.one(0, ALL);
        x.shore(1, Due.bits(15));
        Due.is("who knows all", x.tide(), 15);
        Due.is("knows all", x.told(0, 0), ALL);
        Due.is("the sea is empty", x.count(1), 0);
    }

    /** Terms 2: "A SEASON of one: THINGS, one behind the other, LANDED, behind each a TIDE goes.": none, one, forty. */
    static void seasonsOfNoneOneForty() {
        NameThrownBack x = Due.one(0, 1);
        x.sheet(0, 0, 0);
        Due.is("none", x.fish(0, 0), 1);
        Due.is("no tide", x.count(2), 0);
        Due.is("nothing kept", x.told(0, 1), 0);
        x.sheet(0, 0, 1);
        Due.is("one", x.fish(0, 0), 1);
        Due.is("a tide", x.count(2), 1);
        Due.is("thing 0 is kept", x.told(0, 1), 1);
        Due.is("what went came back", x.count(1), 0);
        x.sheet(0, 0, 40);
        Due.is("forty", x.fish(0, 0), 1);
        Due.is("forty tides", x.count(2), 41);
        Due.is("luck", x.told(0, 2), 99);
    }

    /** Terms 2: "of several the first one told": where one call would be refused by all of them. */
    static void ofSeveralTheFirst() {
        Untouched.by("sheet: BAD ahead of -14", Untouched::busy, x -> x.sheet(4, 3, -1), -2);
        Untouched.by("cell: BAD ahead of -11, -12", Untouched::busy, x -> x.cell(4, -1, 0), -2);
        Untouched.by("copy: BAD ahead of -11, -12", Untouched::busy, x -> x.copy(4, -1, 3, -1, -1), -2);
        Untouched.by("fishersBy: BAD ahead of -11, -12", Untouched::busy, x -> x.fishersBy(3, 2, -1, 7), -2);
        Untouched.by("taken: BAD ahead of -12", Untouched::busy, x -> x.taken(12, 7), -2);
        Untouched.by("season: -11 ahead of -5, -7", Untouched::busy, x -> x.season(3, 9, 9), -11);
        Untouched.by("judge: BAD ahead of -11, -5", Untouched::busy, x -> x.judge(3, 4, 9), -2);
    }

    /** Terms 2: "They change nothing, but where it is told.": each call, by numbers far too small and far too large. */
    static void refusalsChangeNothing() {
        for (int v : new int[] {Integer.MIN_VALUE, -100000, 100000, Integer.MAX_VALUE}) {
            Untouched.byAll("BAD, by " + v, Untouched::busy, -2, x -> x.count(v), x -> x.shore(v, v), x -> x.feed(v, v, v, v, v, v),
                x -> x.force(v), x -> x.fisher(v, v), x -> x.talk(v, v), x -> x.season(v, v, v), x -> x.fish(v, v), x -> x.when(v),
                x -> x.judge(v, v, v), x -> x.kinds(v, v, v, v), x -> x.turned(v, v, v), x -> x.lucks(v, v, v, v), x -> x.whose(v, v),
                x -> x.laws(v, v, v), x -> x.film(v, v, v), x -> x.drawn(v, v, v), x -> x.sheet(v, v, v), x -> x.cell(v, v, v),
                x -> x.copy(v, v, v, v, v), x -> x.fishersBy(v, v, v, v), x -> x.taken(v, v));
            Untouched.byAll("-5, by " + v, Untouched::busy, -5, x -> x.put(v, v, v), x -> x.told(v, v), x -> x.land(v, v),
                x -> x.teach(v, v), x -> x.which(v, v), x -> x.taught(v, v), x -> x.lessons(v, v, v));
            Untouched.by("-1000, by " + v, Untouched::busy, x -> x.asks(v, v, v), -1000);
            Untouched.by("-5000, by " + v, Untouched::busy, x -> x.lands(v, v, v), -5000);
            Untouched.byAll("NO, by " + v, Untouched::busy, NameThrownBack.NO, x -> x.share(v, v), x -> x.odds(v, v, v, v));
        }
    }

    /** Terms 2: "What is asked changes nothing, but where it is told.": each call that asks, in a scene where it comes to something. */
    static void whatIsAskedChangesNothing() {
        Untouched.Call[] asked = {x -> x.count(1), x -> x.asks(0, 0, 3), x -> x.told(0, 5), x -> x.lands(1, 3, 0), x -> x.talk(7, 3),
            x -> x.season(0, 1, 0), x -> x.which(0, 0), x -> x.taught(0, 0), x -> x.lessons(0, 0, 1), x -> x.when(11), x -> x.share(0, 1),
            x -> x.judge(0, 1, 0), x -> x.kinds(0, 1, 0, 0), x -> x.turned(0, 1, 0), x -> x.lucks(0, 1, 0, 0), x -> x.whose(0, 1),
            x -> x.laws(0, 1, 0), x -> x.drawn(5, 60, 1), x -> x.odds(5, 40, 9, 0), x -> x.taken(6, 6)};
        for (int k = 0; k < asked.length; k++) {
            Untouched.by("number " + k, Untouched::busy, asked[k], asked[k].on(Untouched.busy()));
            NameThrownBack twice = Untouched.busy();
            long first = asked[k].on(twice);
            Due.is("asked twice, number " + k, asked[k].on(twice), first);
        }
    }

    /** Promise 12: "One LANDS a THING, truly: the NAME that one LETS go; -1: none.": the first, the last, none. */
    static void landOfTheEnds() {
        NameThrownBack x = Due.one(0, Due.bits(0, 15));
        Due.is("the last", x.land(0, 15), 15);
        Due.is("the first", x.land(0, 0), 0);
        Due.is("none", x.land(0, 0), -1);
        Due.is("luck, also by the last", x.told(0, 2), 65);
        Due.is("kept", x.told(0, 1), Due.bits(0, 15));
        Due.is("no tide goes", x.count(2), 0);
    }

    /** Promise 12: "-5: none such; -6: no such THING.": each too small and too large; -5 is ahead. */
    static void landRefuses() {
        Untouched.byAll("nobody", Untouched::busy, -5, x -> x.land(-1, 0), x -> x.land(3, 0), x -> x.land(3, 16), x -> x.land(-1, -1));
        Untouched.byAll("no thing", Untouched::busy, -6, x -> x.land(0, -1), x -> x.land(2, 16), x -> x.land(0, Integer.MIN_VALUE));
        Untouched.by("nobody is there", Untouched::fresh, x -> x.land(0, 0), -5);
        Untouched.by("of six", Untouched::full, x -> x.land(6, 0), -5);
    }

    /** Promise 13: "A LESSON of a to b, truly: which NAMES that one learns (bits).": none, all. */
    static void teachOfTheEnds() {
        NameThrownBack x = Due.one(0, ALL);
        x.fisher(45, 0);
        Due.is("all but the last two", x.teach(0, 1), ALL >> 2);
        Due.is("the rest", x.teach(0, 1), Due.bits(14, 15));
        Due.is("none", x.teach(0, 1), 0);
        Due.is("none", x.teach(1, 0), 0);
        Due.is("no tide goes", x.count(2), 0);
        Due.is("no luck by it", x.told(1, 2), 50);
        NameThrownBack y = Untouched.full();
        Due.is("of the sixth to the first", y.teach(5, 0), Due.bits(15));
    }

    /** Promise 13: "-5: no such two, one and the same.": each too small and too large. */
    static void teachRefuses() {
        Untouched.byAll("teach", Untouched::busy, -5, x -> x.teach(-1, 0), x -> x.teach(3, 0), x -> x.teach(0, -1), x -> x.teach(0, 3),
            x -> x.teach(0, 0), x -> x.teach(2, 2), x -> x.teach(3, 3), x -> x.teach(-1, -1));
        Untouched.byAll("of six", Untouched::full, -5, x -> x.teach(5, 6), x -> x.teach(6, 5), x -> x.teach(5, 5));
        Untouched.by("of one", () -> Due.one(0, 1), x -> x.teach(0, 1), -5);
        Untouched.by("nobody is there", Untouched::fresh, x -> x.teach(0, 1), -5);
    }

    /** Promise 14: "A TIDE goes, truly: the NAME; -1: none.": the first, the last, none. */
    static void tideOfTheEnds() {
        NameThrownBack x = Due.one(0, 0);
        x.shore(1, Due.bits(0, 15));
        Due.is("the first", x.tide(), 0);
        Due.is("the last", x.tide(), 15);
        Due.is("none", x.tide(), -1);
        Due.is("three went", x.count(2), 3);
    }

    /** At a TIDE, with a NAME that lies in the sea and one who would find it. */
    static NameThrownBack tideAt(int tide) {
        NameThrownBack x = Due.one(0, 0);
        x.shore(1, 2);
        x.shore(0, tide);
        return x;
    }

    /** Promise 14: "STATE: TIDE is 999.": 998 goes to 999, and no further. */
    static void tideStopsAt999() {
        NameThrownBack x = tideAt(998);
        Due.is("998", x.tide(), 1);
        Due.is("is 999", x.count(2), 999);
        Due.is("not above", x.tide(), -3);
        Untouched.by("999", () -> tideAt(999), y -> y.tide(), -3);
        NameThrownBack y = new NameThrownBack();
        y.shore(0, 999);
        Due.is("without anybody", y.tide(), -3);
    }

    /** Promise 15: "NAMES (bits) KNOWN to all of some FISHERS (what 0; bits; of none: all), to any (1), to none (2), to just one of them (3).": of none. */
    static void talkOfNobody() {
        for (Untouched.Scene scene : new Untouched.Scene[] {Untouched::fresh, Untouched::busy, Untouched::full}) {
            Untouched.by("all of nobody", scene, x -> x.talk(0, 0), ALL);
            Untouched.by("any of nobody", scene, x -> x.talk(0, 1), 0);
            Untouched.by("none of nobody", scene, x -> x.talk(0, 2), ALL);
            Untouched.by("just one of nobody", scene, x -> x.talk(0, 3), 0);
        }
    }

    /** Promise 15: "NAMES (bits) KNOWN to all of some FISHERS (what 0; bits; of none: all), to any (1), to none (2), to just one of them (3).": of one, of all six. */
    static void talkOfOneAndOfAll() {
        int last = Due.bits(5, 10, 15);
        Untouched.by("all of one", Untouched::full, x -> x.talk(32, 0), last);
        Untouched.by("any of one", Untouched::full, x -> x.talk(32, 1), last);
        Untouched.by("none of one", Untouched::full, x -> x.talk(32, 2), ALL - last);
        Untouched.by("just one of one", Untouched::full, x -> x.talk(32, 3), last);
        Untouched.by("all of six", Untouched::full, x -> x.talk(63, 0), 0);
        Untouched.by("any of six", Untouched::full, x -> x.talk(63, 1), ALL);
        Untouched.by("none of six", Untouched::full, x -> x.talk(63, 2), 0);
        Untouched.by("5 and 10 are known to two", Untouched::full, x -> x.talk(63, 3), ALL - Due.bits(5, 10));
        NameThrownBack x = Untouched.full();
        for (int p = 0; p < 6; p++) {
            x.put(p, 0, p < 3 ? ALL : Due.bits(p));
        }
        Due.is("known to three is not just one", x.talk(7, 3), 0);
        Due.is("all", x.talk(7, 0), ALL);
    }

    /** Promise 15: "BAD: some, what.": each too small and too large; bits of those who are not there. */
    static void talkRefuses() {
        Untouched.byAll("talk", Untouched::busy, -2, x -> x.talk(-1, 0), x -> x.talk(8, 0), x -> x.talk(15, 0), x -> x.talk(7, -1),
            x -> x.talk(7, 4), x -> x.talk(0, 4), x -> x.talk(Integer.MIN_VALUE, 0), x -> x.talk(Integer.MAX_VALUE, 0));
        Untouched.by("all who are there", Untouched::busy, x -> x.talk(7, 0), 0);
        Untouched.byAll("of six", Untouched::full, -2, x -> x.talk(64, 0), x -> x.talk(-1, 0));
        Untouched.byAll("nobody is there", Untouched::fresh, -2, x -> x.talk(1, 0), x -> x.talk(0, -1), x -> x.talk(0, 4));
    }

    /** One who knows 0 and 15, name 3 in the sea, an empty sheet. */
    static NameThrownBack still() {
        NameThrownBack x = Due.one(0, Due.bits(0, 15));
        x.put(0, 1, Due.bits(14, 15));
        x.put(0, 2, 99);
        x.shore(1, Due.bits(3));
        x.shore(0, 999);
        x.sheet(0, 1, 0);
        return x;
    }

    /** Promise 16: "By a SEASON of one that a SHEET tells (none, too), in thought": all is as now. */
    static void aSeasonOfNone() {
        Untouched.by("known", LandingEdgesTest::still, x -> x.season(0, 0, 0), 2);
        Untouched.by("luck", LandingEdgesTest::still, x -> x.season(0, 0, 1), 99);
        Untouched.by("the sea", LandingEdgesTest::still, x -> x.season(0, 0, 2), Due.bits(3));
        Untouched.by("landings without", LandingEdgesTest::still, x -> x.season(0, 0, 3), 0);
        Untouched.by("kept, not known", LandingEdgesTest::still, x -> x.season(0, 0, 4), Due.bits(14));
    }

    /** Promise 16: "how many NAMES are KNOWN to one then (what 0), LUCK (1), THE SEA (2; bits), by how many landings none is let go (3)": by forty landings, in thought. */
    static void aSeasonOfForty() {
        Untouched.Scene scene = () -> {
            NameThrownBack x = Due.one(0, 0);
            x.fisher(0, 0);
            x.sheet(0, 2, 40);
            x.cell(0, 39, 15);
            x.shore(0, 999);
            return x;
        };
        Untouched.by("known", scene, x -> x.season(0, 0, 0), 0);
        Untouched.by("luck", scene, x -> x.season(0, 0, 1), 99);
        Untouched.by("the sea", scene, x -> x.season(0, 1, 2), 0);
        Untouched.by("each landing without", scene, x -> x.season(0, 1, 3), 40);
        Untouched.by("kept, not known", scene, x -> x.season(0, 1, 4), Due.bits(0, 15));
    }

    /** Promise 16: "by how many landings none is let go (3)": name 0 let go is one, too. */
    static void landingsWithoutAName() {
        NameThrownBack x = Due.one(0, Due.bits(0));
        Due.row(x, 0, 0, 5, 5, 5);
        Due.is("it comes back each time", x.season(0, 0, 3), 0);
        x.fisher(0, 0);
        Due.is("one who knows none", x.season(0, 1, 3), 3);
        Due.is("one whose name another one finds", x.season(0, 0, 3), 0);
        x.put(0, 0, Due.bits(0, 1));
        x.put(1, 0, 0);
        Due.is("the other one finds the first that goes, then they are alike", x.season(0, 0, 3), 0);
        NameThrownBack y = Due.one(50, Due.bits(7));
        y.fisher(50, 0);
        y.fisher(50, 0);
        Due.row(y, 0, 0, 1, 1, 1);
        // what goes is found at once by the first of those who know none then, who is the one
        Due.is("it is found by the one again", y.season(0, 0, 3), 0);
        Due.is("the last one knows none ever", y.season(0, 2, 3), 3);
    }

    /** Promise 16: "what is KEPT, its NAME not KNOWN (4; bits).": none, all. */
    static void seasonKeptWithoutAName() {
        Untouched.Scene all = () -> {
            NameThrownBack x = Due.one(0, 0);
            x.sheet(0, 0, 16);
            for (int i = 0; i < 16; i++) {
                x.cell(0, i, i);
            }
            return x;
        };
        Untouched.by("all", all, x -> x.season(0, 0, 4), ALL);
        Untouched.by("none", () -> {
            NameThrownBack x = all.make();
            x.put(0, 0, ALL);
            return x;
        }, x -> x.season(0, 0, 4), 0);
        Untouched.by("what another one found", () -> {
            NameThrownBack x = all.make();
            x.put(0, 0, ALL);
            x.fisher(0, 0);
            x.sheet(0, 0, 1);
            return x;
        }, x -> x.season(0, 0, 4), 1);
    }

    /** Promise 16: "BAD: SHEET; -11; BAD: it tells what is no THING; -5: none such; -7: what.": each, too small and too large. */
    static void seasonRefuses() {
        Untouched.byAll("no sheet", Untouched::busy, -2, x -> x.season(-1, 0, 0), x -> x.season(4, 0, 0), x -> x.season(4, 3, 5));
        Untouched.byAll("missing", Untouched::busy, -11, x -> x.season(3, 0, 0), x -> x.season(3, 3, 5));
        Untouched.byAll("no thing", Untouched::busy, -2, x -> x.season(1, 0, 0), x -> x.season(2, 0, 0), x -> x.season(2, 3, 5));
        Untouched.byAll("nobody", Untouched::busy, -5, x -> x.season(0, -1, 0), x -> x.season(0, 3, 0), x -> x.season(0, 3, 5));
        Untouched.byAll("what", Untouched::busy, -7, x -> x.season(0, 0, -1), x -> x.season(0, 2, 5));
        Untouched.by("nobody is there", () -> things(0), x -> x.season(0, 0, 0), -5);
    }

    /** Nobody, and sheet 0 of five ints, the last of which is told. */
    static NameThrownBack things(int last) {
        NameThrownBack x = new NameThrownBack();
        Due.row(x, 0, 2, 0, 15, 0, 15, last);
        return x;
    }

    /** Promise 16: "it tells what is no THING": -1 and 16, wherever they stand; 0 and 15 are things. */
    static void aSeasonIsOfThings() {
        int[] numbers = {-1, 16, 65536, Integer.MIN_VALUE, Integer.MAX_VALUE};
        for (int number : numbers) {
            Due.is("the last " + number, things(number).season(0, 0, 0), -2);
            NameThrownBack x = things(0);
            x.cell(0, 0, number);
            Due.is("the first " + number, x.season(0, 0, 0), -2);
        }
        Due.is("0", things(0).season(0, 0, 0), -5);
        Due.is("15", things(15).season(0, 0, 0), -5);
        NameThrownBack x = new NameThrownBack();
        Due.row(x, 0, 0, 256 + 15);
        Due.is("of bytes the lowest 8 bits", x.season(0, 0, 0), -5);
        Due.row(x, 0, 0, 255);
        Due.is("255 is no thing", x.season(0, 0, 0), -2);
        Due.row(x, 0, 1, 65536 + 15);
        Due.is("of shorts the lowest 16 bits", x.season(0, 0, 0), -5);
    }

    /** Promise 17: "It, truly: how many NAMES are KNOWN to one then.": none, and all. */
    static void fishOfTheEnds() {
        NameThrownBack x = Due.one(0, ALL);
        x.fisher(0, 0);
        Due.row(x, 0, 0, 15);
        Due.is("fifteen", x.fish(0, 0), 15);
        Due.is("the other one found 15", x.told(1, 0), Due.bits(15));
        Due.is("one", x.fish(0, 1), 1);
        x.sheet(0, 0, 0);
        x.put(1, 0, 0);
        Due.is("none", x.fish(0, 1), 0);
        x.put(1, 0, ALL);
        Due.is("all", x.fish(0, 1), 16);
    }

    /** Promise 17: "BAD, -11, BAD, -5 likewise": in this order. */
    static void fishRefuses() {
        Untouched.byAll("no sheet", Untouched::busy, -2, x -> x.fish(-1, 0), x -> x.fish(4, 0), x -> x.fish(4, 3));
        Untouched.byAll("missing", Untouched::busy, -11, x -> x.fish(3, 0), x -> x.fish(3, 3));
        Untouched.byAll("no thing", Untouched::busy, -2, x -> x.fish(1, 0), x -> x.fish(2, 3));
        Untouched.byAll("nobody", Untouched::busy, -5, x -> x.fish(0, -1), x -> x.fish(0, 3));
    }

    /** One, a sheet of so many, at a TIDE. */
    static NameThrownBack season(int size, int tide) {
        NameThrownBack x = Due.one(0, 3);
        x.sheet(0, 2, size);
        x.shore(0, tide);
        return x;
    }

    /** Promise 17: "STATE: TIDE would be above 999.": just 999 is not. */
    static void fishUpTo999() {
        NameThrownBack x = season(40, 959);
        Due.is("forty from 959", x.fish(0, 0), 2);
        Due.is("tide", x.count(2), 999);
        Due.is("none from 999", season(0, 999).fish(0, 0), 2);
        Due.is("one from 998", season(1, 998).fish(0, 0), 2);
        Untouched.by("forty from 960", () -> season(40, 960), y -> y.fish(0, 0), -3);
        Untouched.by("one from 999", () -> season(1, 999), y -> y.fish(0, 0), -3);
        Untouched.by("nobody is ahead", () -> season(1, 999), y -> y.fish(0, 1), -5);
        Untouched.by("no thing is ahead", () -> {
            NameThrownBack y = season(1, 999);
            y.cell(0, 0, 16);
            return y;
        }, y -> y.fish(0, 0), -2);
        Untouched.by("missing is ahead", () -> season(1, 999), y -> y.fish(1, 0), -11);
    }
}
