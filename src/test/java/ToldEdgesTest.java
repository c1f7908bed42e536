/** The boundary cases of told seasons: promises 23 to 29. */
public final class ToldEdgesTest {
    private static final int ALL = 65535;

    public static void main(String[] args) {
        Sentences.run(ToldEdgesTest.class);
    }

    /** An uncle of MORE 4 who knows 2, 5 lands 2, 3, 5 and comes to LUCK 55, 56, 61; sheet 1 of a sort tells so much. */
    static NameThrownBack uncle(int sort, int... told) {
        NameThrownBack x = Due.one(14, Due.bits(2, 5));
        Due.row(x, 0, 2, 2, 3, 5);
        Due.row(x, 1, sort, told);
        return x;
    }

    static void judge(String what, Untouched.Scene scene, int due) {
        Untouched.by(what, scene, x -> x.judge(0, 1, 0), due);
    }

    /** Promise 23: "the first (from 0) that is otherwise; -1: none.": the first, the last, one between, two. */
    static void theFirstThatIsOtherwise() {
        judge("none", () -> uncle(0, 55, 56, 61), -1);
        judge("the first", () -> uncle(0, 54, 56, 61), 0);
        judge("the second", () -> uncle(0, 55, 57, 61), 1);
        judge("the last", () -> uncle(0, 55, 56, 60), 2);
        judge("of two the first", () -> uncle(0, 55, 0, 0), 1);
        judge("of all the first", () -> uncle(0, 0, 0, 0), 0);
    }

    /** Promise 23: "SHEET told LUCK behind its first, second, .. landing": none is told, fewer than there are. */
    static void fewerAreTold() {
        judge("none is told", () -> uncle(1), -1);
        judge("one is told", () -> uncle(1, 55), -1);
        judge("one is told, otherwise", () -> uncle(1, 56), 0);
        judge("two are told", () -> uncle(2, 55, 56), -1);
        judge("two are told, otherwise", () -> uncle(2, 55, 55), 1);
        judge("none is landed, none is told", () -> {
            NameThrownBack x = uncle(0);
            x.sheet(0, 0, 0);
            return x;
        }, -1);
    }

    /** Promise 23: "SHEET told LUCK behind its first, second, .. landing": forty of forty. */
    static void fortyAreTold() {
        Untouched.Scene scene = () -> {
            NameThrownBack x = Due.one(0, 0);
            x.sheet(0, 0, 40);
            x.sheet(1, 0, 40);
            for (int i = 0; i < 40; i++) {
                x.cell(1, i, Math.min(99, 55 + 5 * i));
            }
            return x;
        };
        judge("as told", scene, -1);
        judge("but the last", () -> {
            NameThrownBack x = scene.make();
            x.cell(1, 39, 98);
            return x;
        }, 39);
    }

    /** Promise 23: "SHEET told LUCK behind its first, second, .. landing": what is no LUCK is otherwise; of bytes, shorts the lowest bits are told. */
    static void toldNumbersThatAreNoLuck() {
        judge("-1", () -> uncle(2, -1), 0);
        judge("100", () -> uncle(2, 100), 0);
        judge("55 and 256, an int", () -> uncle(2, 55 + 256), 0);
        judge("55 and 65536, an int", () -> uncle(2, 55 + 65536), 0);
        judge("55 and 256, a short", () -> uncle(1, 55 + 256), 0);
        judge("55 and 65536, a short", () -> uncle(1, 55 + 65536), -1);
        judge("55 and 256, a byte", () -> uncle(0, 55 + 256), -1);
        judge("-201, a byte", () -> uncle(0, 55 - 256), -1);
    }

    /** Promise 23: "BAD: it tells more than s": just as many are not more. */
    static void toldMoreThanS() {
        judge("as many", () -> uncle(0, 55, 56, 61), -1);
        judge("one more", () -> uncle(0, 55, 56, 61, 61), -2);
        judge("one of none", () -> {
            NameThrownBack x = uncle(0, 55);
            x.sheet(0, 2, 0);
            return x;
        }, -2);
    }

    static void judged(String what, Untouched.Scene scene, int s, int told, int p, int due) {
        Untouched.by("judge " + what, scene, x -> x.judge(s, told, p), due);
        Untouched.by("kinds " + what, scene, x -> x.kinds(s, told, p, 0), due);
        Untouched.by("turned " + what, scene, x -> x.turned(s, told, p), due);
        Untouched.by("lucks " + what, scene, x -> x.lucks(s, told, p, 0), due);
        Untouched.by("laws " + what, scene, x -> x.laws(s, told, p), due);
        if (due != -5) {
            Untouched.by("whose " + what, scene, x -> x.whose(s, told), due);
        }
        if (due != -7) {
            Untouched.by("kinds, no sort, " + what, scene, x -> x.kinds(s, told, p, 2), due);
            Untouched.by("lucks, no what, " + what, scene, x -> x.lucks(s, told, p, -1), due);
        }
    }

    /** One, who lands; sheet 0 of two numbers, sheet 1 of so many, or missing (-1); sheets 2, 3 are missing. */
    static NameThrownBack refusing(int number, int told) {
        NameThrownBack x = Due.one(0, 0);
        Due.row(x, 0, 2, 0, number);
        x.sheet(1, told < 0 ? -1 : 0, told);
        return x;
    }

    /** Promise 23: "BAD: SHEET told; BAD: SHEET s": each too small and too large, ahead of all others. */
    static void judgedNoSheets() {
        judged("told -1", () -> refusing(0, 2), 0, -1, 0, -2);
        judged("told 4", () -> refusing(0, 2), 0, 4, 0, -2);
        judged("told 4 ahead of s missing", () -> refusing(0, 2), 2, 4, 9, -2);
        judged("s -1", () -> refusing(0, 2), -1, 1, 0, -2);
        judged("s 4", () -> refusing(0, 2), 4, 1, 0, -2);
        judged("s 4 ahead of told missing", () -> refusing(0, -1), 4, 1, 9, -2);
        judged("both", () -> refusing(0, 2), 4, 4, 9, -2);
    }

    /** Promise 23: "-11: s is missing; BAD: it tells no SEASON; -11: told is missing": in this order. */
    static void judgedMissing() {
        judged("s missing", () -> refusing(0, 2), 2, 1, 0, -11);
        judged("s missing ahead of nobody", () -> refusing(0, 2), 2, 1, 9, -11);
        judged("both missing", () -> refusing(0, 2), 2, 3, 9, -11);
        judged("no season", () -> refusing(16, 2), 0, 1, 0, -2);
        judged("no season", () -> refusing(-1, 2), 0, 1, 0, -2);
        judged("no season ahead of told missing", () -> refusing(16, -1), 0, 1, 9, -2);
        judged("no season, though just the first is told", () -> refusing(16, 1), 0, 1, 0, -2);
        judged("told missing", () -> refusing(15, -1), 0, 1, 0, -11);
        judged("told missing ahead of nobody", () -> refusing(15, -1), 0, 1, 9, -11);
    }

    /** Promise 23: "BAD: it tells more than s; -5: none such.": in this order, FISHER too small and too large. */
    static void judgedNobody() {
        judged("more", () -> refusing(0, 3), 0, 1, 0, -2);
        judged("more ahead of nobody", () -> refusing(0, 3), 0, 1, 1, -2);
        judged("nobody", () -> refusing(0, 2), 0, 1, 1, -5);
        judged("nobody", () -> refusing(0, 2), 0, 1, -1, -5);
        judged("nobody, of none told", () -> refusing(0, 0), 0, 1, 1, -5);
        judged("nobody of six", () -> {
            NameThrownBack x = Untouched.full();
            x.sheet(1, 0, 0);
            return x;
        }, 0, 1, 6, -5);
    }

    static void kinds(String what, Untouched.Scene scene, int kinds, int mores) {
        Untouched.by("kinds " + what, scene, x -> x.kinds(0, 1, 0, 0), kinds);
        Untouched.by("more " + what, scene, x -> x.kinds(0, 1, 0, 1), mores);
    }

    /** Promise 24: "KINDS (sort 0; bits 0 .. 5), MORE (1; bits 0 .. 9) by which, were they one's, that would be -1.": none, all, the first, the last. */
    static void kindsAndMores() {
        kinds("none", () -> uncle(0, 0), 0, 0);
        kinds("all", () -> uncle(0), 63, 1023);
        kinds("as it is", () -> uncle(0, 55, 56, 61), Due.bits(1, 3), Due.bits(4));
        kinds("a fisher's and a mute's, MORE 0", () -> uncle(0, 55, 60), Due.bits(0, 5), Due.bits(0));
        kinds("by MORE 9", () -> uncle(0, 55, 51), 0, Due.bits(9));
        kinds("by a MORE of 10 there is none", () -> uncle(0, 55, 50), 0, 0);
        kinds("a girl's", () -> uncle(0, 54, 56), Due.bits(4), 0);
    }

    /** Promise 24: "All that judge() refuses, likewise; -7: sort.": too small, too large, behind all others. */
    static void kindsRefuseSort() {
        Untouched.byAll("sort", () -> uncle(0, 55), -7, x -> x.kinds(0, 1, 0, -1), x -> x.kinds(0, 1, 0, 2));
        Untouched.by("nobody is ahead", () -> uncle(0, 55), x -> x.kinds(0, 1, 1, 2), -5);
        Untouched.by("more is ahead", () -> uncle(0, 55, 56, 61, 61), x -> x.kinds(0, 1, 0, 2), -2);
    }

    static void turned(String what, Untouched.Scene scene, int due) {
        Untouched.by(what, scene, x -> x.turned(0, 1, 0), due);
    }

    /** Promise 25: "NAMES (bits) such that, were just that one KNOWN to one now, if it isn't, or not, if it is, that would be -1.": none, all, the first, the last. */
    static void turnedNames() {
        turned("none", () -> uncle(0, 0), 0);
        turned("all", () -> uncle(0), ALL);
        turned("one that isn't known", () -> uncle(0, 55, 60), Due.bits(3));
        turned("one that is known", () -> uncle(0, 51), Due.bits(2));
        turned("all others", () -> uncle(0, 55, 56), ALL - Due.bits(2, 3));
        turned("the first", () -> ends(0, 0, 55), Due.bits(0));
        turned("the last", () -> ends(15, 0, 55), Due.bits(15));
        turned("the first, known", () -> ends(0, Due.bits(0, 15), 51), Due.bits(0));
        turned("the last, known", () -> ends(15, Due.bits(0, 15), 51), Due.bits(15));
        turned("the only one, known", () -> ends(15, Due.bits(15), 51), Due.bits(15));
    }

    /** An uncle of MORE 4 who knows so much lands one thing, and so much is told. */
    static NameThrownBack ends(int thing, int known, int told) {
        NameThrownBack x = Due.one(14, known);
        Due.row(x, 0, 2, thing);
        Due.row(x, 1, 0, told);
        return x;
    }

    static void lucks(String what, Untouched.Scene scene, int many, int least) {
        Untouched.by(what + ", how many", scene, x -> x.lucks(0, 1, 0, 0), many);
        Untouched.by(what + ", the least", scene, x -> x.lucks(0, 1, 0, 1), least);
    }

    /** Promise 26: "LUCK (0 .. 99) by which, were it so now, that would be -1: how many (what 0), the least (1; -1: none).": none, one, all; 0, 99. */
    static void lucksFrom0To99() {
        lucks("none", () -> uncle(0, 4), 0, -1);
        lucks("none above", () -> uncle(0, 100), 0, -1);
        lucks("0 alone", () -> uncle(0, 5), 1, 0);
        lucks("as it is", () -> uncle(0, 55, 56, 61), 1, 50);
        lucks("94 to 99", () -> uncle(0, 99), 6, 94);
        lucks("all", () -> uncle(0), 100, 0);
        lucks("0 to 4, by less luck", () -> {
            NameThrownBack x = uncle(0, 0);
            Due.law(x, "lets 0;lucks -4;takes 0;");
            return x;
        }, 5, 0);
        lucks("99 alone, by less luck", () -> {
            NameThrownBack x = uncle(0, 95);
            Due.law(x, "lets 0;lucks -4;takes 0;");
            return x;
        }, 1, 99);
        lucks("all, by as little luck as there is", () -> {
            NameThrownBack x = uncle(0, 0);
            Due.law(x, "lets 0;lucks -99;takes 0;");
            return x;
        }, 100, 0);
    }

    /** Promise 26: "All that judge() refuses, likewise; -7: what.": too small, too large, behind all others. */
    static void lucksRefuseWhat() {
        Untouched.byAll("what", () -> uncle(0, 55), -7, x -> x.lucks(0, 1, 0, -1), x -> x.lucks(0, 1, 0, 2));
        Untouched.by("nobody is ahead", () -> uncle(0, 55), x -> x.lucks(0, 1, 1, 2), -5);
        Untouched.by("more is ahead", () -> uncle(0, 55, 56, 61, 61), x -> x.lucks(0, 1, 0, 2), -2);
    }

    /** Promise 27: "FISHERS (bits) of whom that is -1. All that judge() refuses, likewise, but -5.": nobody is there, none, all six, the last. */
    static void whoseOfNoneAndOfAll() {
        Untouched.by("nobody is there", () -> {
            NameThrownBack x = new NameThrownBack();
            Due.row(x, 0, 0, 1);
            Due.row(x, 1, 0, 55);
            return x;
        }, x -> x.whose(0, 1), 0);
        Untouched.by("none", () -> six(0), x -> x.whose(0, 1), 0);
        Untouched.by("all six", () -> {
            NameThrownBack x = six(0);
            x.sheet(1, 0, 0);
            return x;
        }, x -> x.whose(0, 1), 63);
        Untouched.by("all six, by their luck", () -> {
            NameThrownBack x = six(55);
            for (int p = 0; p < 6; p++) {
                x.put(p, 0, Due.bits(0, 1));
            }
            return x;
        }, x -> x.whose(0, 1), Due.bits(0, 1, 3, 5));
        Untouched.by("the last", () -> {
            NameThrownBack x = six(98);
            x.put(5, 2, 93);
            return x;
        }, x -> x.whose(0, 1), 32);
    }

    /** Six, one of each KIND, who land thing 1; LUCK of the first is told. */
    static NameThrownBack six(int told) {
        NameThrownBack x = new NameThrownBack();
        for (int kind = 0; kind < 6; kind++) {
            x.fisher(10 * kind + 3, 0);
        }
        Due.row(x, 0, 0, 1);
        Due.row(x, 1, 0, told);
        return x;
    }

    /** Promise 28: "TEXTS (bits), were they THE LAW, by which that would be -1.": none, text 0 alone, all six, the last. */
    static void lawsOfNoneAndOfAll() {
        Untouched.by("none", () -> uncle(0, 0), x -> x.laws(0, 1, 0), 0);
        Untouched.by("text 0 alone", () -> uncle(0, 55, 56, 61), x -> x.laws(0, 1, 0), 1);
        Untouched.by("text 0 alone, of none told", () -> uncle(0), x -> x.laws(0, 1, 0), 1);
        Untouched.by("all six", () -> sixTexts(), x -> x.laws(0, 2, 0), 63);
        Untouched.by("the last", () -> sixTexts(), x -> x.laws(0, 1, 0), 32);
        Untouched.by("the last, another one being the law", () -> {
            NameThrownBack x = sixTexts();
            x.force(3);
            return x;
        }, x -> x.laws(0, 1, 0), 32);
    }

    /** Six texts, of which only the last is as sheet 1 tells; sheet 2 tells nothing. */
    static NameThrownBack sixTexts() {
        NameThrownBack x = Due.one(0, 1);
        for (int t = 1; t < 6; t++) {
            Due.text(x, "lets 0;lucks " + t + "-30;takes 0;");
        }
        Due.row(x, 0, 0, 1);
        Due.row(x, 1, 0, 25);
        x.sheet(2, 0, 0);
        return x;
    }

    /** Promise 25: "All that judge() refuses, likewise." */
    static void turnedRefuses() {
        Untouched.byAll("as judge", Untouched::busy, -2, x -> x.turned(0, 4, 0), x -> x.turned(-1, 1, 0), x -> x.turned(1, 0, 0));
        Untouched.byAll("missing", Untouched::busy, -11, x -> x.turned(3, 1, 0), x -> x.turned(0, 3, 0));
        Untouched.byAll("nobody", Untouched::busy, -5, x -> x.turned(0, 1, -1), x -> x.turned(0, 1, 3));
    }

    /** Promise 27: "All that judge() refuses, likewise, but -5." */
    static void whoseRefuses() {
        Untouched.byAll("as judge", Untouched::busy, -2, x -> x.whose(0, 4), x -> x.whose(-1, 1), x -> x.whose(1, 0));
        Untouched.byAll("missing", Untouched::busy, -11, x -> x.whose(3, 1), x -> x.whose(0, 3));
    }

    /** Promise 28: "All that judge() refuses, likewise." */
    static void lawsRefuse() {
        Untouched.byAll("as judge", Untouched::busy, -2, x -> x.laws(0, 4, 0), x -> x.laws(-1, 1, 0), x -> x.laws(1, 0, 0));
        Untouched.byAll("missing", Untouched::busy, -11, x -> x.laws(3, 1, 0), x -> x.laws(0, 3, 0));
        Untouched.byAll("nobody", Untouched::busy, -5, x -> x.laws(0, 1, -1), x -> x.laws(0, 1, 3));
    }

    static void filmed(String what, NameThrownBack x, int told, int due, String sheet) {
        String was = Due.seen(x);
        Due.is(what, x.film(0, told, 0), due);
        Due.holds(what + ": nothing else is otherwise", was.equals(Due.seen(x)));
        String is = Untouched.sheet(x, told);
        Due.holds(what + ": " + is, is.equals(sheet));
    }

    /** Promise 29: "SHEET told truly becomes LUCK of one behind each landing of the SEASON of SHEET s (bytes): how many.": whatever it was. */
    static void filmWhateverToldWas() {
        String due = "1: sort 0, size 3 55 56 61";
        filmed("bytes", uncle(0, 7, 7, 7), 1, 3, due);
        filmed("fewer ints", uncle(2, 7), 1, 3, due);
        filmed("more shorts", uncle(1, 7, 7, 7, 7, 7), 1, 3, due);
        filmed("none", uncle(2), 1, 3, due);
        filmed("missing", uncle(0), 2, 3, "2: sort 0, size 3 55 56 61");
        filmed("the last sheet", uncle(0), 3, 3, "3: sort 0, size 3 55 56 61");
    }

    /** Promise 29: "SHEET told truly becomes LUCK of one behind each landing of the SEASON of SHEET s (bytes): how many.": none, forty; LUCK 0, 99. */
    static void filmNoneAndForty() {
        NameThrownBack x = uncle(0, 7, 7);
        x.sheet(0, 1, 0);
        filmed("none", x, 1, 0, "1: sort 0, size 0");
        NameThrownBack y = Due.one(0, 0);
        y.sheet(0, 1, 40);
        Due.law(y, "lets 0;lucks 99;takes 0;");
        StringBuilder due = new StringBuilder("1: sort 0, size 40");
        for (int i = 0; i < 40; i++) {
            due.append(" 99");
        }
        filmed("forty", y, 1, 40, due.toString());
        NameThrownBack z = Due.one(0, 0);
        z.sheet(0, 1, 2);
        Due.law(z, "lets 0;lucks -99;takes 0;");
        filmed("luck 0", z, 1, 2, "1: sort 0, size 2 0 0");
    }

    /** Promise 29: "BAD: SHEET told, one and the same; BAD: SHEET s; -11: s is missing; BAD: no SEASON; -5: none such.": in this order. */
    static void filmRefuses() {
        Untouched.byAll("no sheet told", Untouched::busy, -2, x -> x.film(0, -1, 0), x -> x.film(0, 4, 0), x -> x.film(3, 4, 9));
        Untouched.byAll("one and the same", Untouched::busy, -2, x -> x.film(0, 0, 0), x -> x.film(3, 3, 9), x -> x.film(1, 1, 0));
        Untouched.byAll("no sheet s", Untouched::busy, -2, x -> x.film(-1, 1, 0), x -> x.film(4, 1, 9));
        Untouched.byAll("s missing", Untouched::busy, -11, x -> x.film(3, 1, 0), x -> x.film(3, 1, 9));
        Untouched.byAll("no season", Untouched::busy, -2, x -> x.film(1, 3, 0), x -> x.film(2, 0, 9));
        Untouched.byAll("nobody", Untouched::busy, -5, x -> x.film(0, 1, -1), x -> x.film(0, 1, 3), x -> x.film(0, 3, 3));
        Untouched.by("nobody is there", () -> {
            NameThrownBack x = new NameThrownBack();
            x.sheet(0, 0, 0);
            return x;
        }, x -> x.film(0, 1, 0), -5);
    }
}
