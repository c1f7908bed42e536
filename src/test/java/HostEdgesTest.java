/** The boundary cases of the sheets and of the host: Terms 2, promises 34 to 38. */
public final class HostEdgesTest {
    private static final int MOST = Integer.MAX_VALUE, LEAST = Integer.MIN_VALUE;

    public static void main(String[] args) {
        Sentences.run(HostEdgesTest.class);
    }

    static void sheetIs(String what, NameThrownBack x, int s, String due) {
        String is = Untouched.sheet(x, s);
        Due.holds(what + ": is " + is + ", due " + due, is.equals(s + ": " + due));
    }

    /** Terms 2: "SHEETS 0 .. 3 are rows of numbers, or missing (as all are at first)". */
    static void sheetsAre0To3() {
        for (int s = 0; s < 4; s++) {
            Due.is("missing " + s, new NameThrownBack().cell(s, 0, 0), -11);
            NameThrownBack x = new NameThrownBack();
            Due.is("becomes a row " + s, x.sheet(s, 0, 1), 1);
            for (int other = 0; other < 4; other++) {
                Due.is("and no other one", x.cell(other, 0, 5), other == s ? 1 : -11);
            }
        }
        Untouched.byAll("no sheet", Untouched::busy, -2, x -> x.sheet(-1, 0, 1), x -> x.sheet(4, 0, 1), x -> x.cell(-1, 0, 1),
            x -> x.cell(4, 0, 1), x -> x.sheet(-1, -1, 0), x -> x.sheet(4, -1, 0));
    }

    /** Terms 2: "of sort 0 bytes, 1 shorts, 2 ints, 40 at most.": none, and forty, of each sort. */
    static void rowsOfNoneAndOfForty() {
        for (int sort = 0; sort < 3; sort++) {
            NameThrownBack x = new NameThrownBack();
            Due.is("none", x.sheet(0, sort, 0), 1);
            Due.is("no place", x.cell(0, 0, 0), -12);
            Due.is("forty", x.sheet(0, sort, 40), 1);
            Due.is("the last place", x.cell(0, 39, 0), 1);
            Due.is("no further place", x.cell(0, 40, 0), -12);
        }
        Untouched.byAll("41", Untouched::busy, -2, x -> x.sheet(0, 0, 41), x -> x.sheet(0, 1, 41), x -> x.sheet(3, 2, 41));
    }

    /** Promise 34: "A SHEET becomes a row of n of a sort, all 0": whatever it was. */
    static void aSheetIsAll0() {
        NameThrownBack x = Untouched.busy();
        x.sheet(0, 2, 3);
        sheetIs("fewer of the same sort", x, 0, "sort 2, size 3 0 0 0");
        x = Untouched.busy();
        x.sheet(0, 2, 8);
        sheetIs("more of the same sort", x, 0, "sort 2, size 8 0 0 0 0 0 0 0 0");
        x = Untouched.busy();
        x.sheet(0, 0, 6);
        sheetIs("of another sort", x, 0, "sort 0, size 6 0 0 0 0 0 0");
        x = Untouched.busy();
        x.sheet(0, -1, 0);
        x.sheet(0, 2, 6);
        sheetIs("which was missing", x, 0, "sort 2, size 6 0 0 0 0 0 0");
        x = Untouched.busy();
        x.sheet(0, 2, 6);
        sheetIs("another one is as it was", x, 1, "sort 0, size 3 49 51 48");
        x = Untouched.busy();
        x.sheet(0, 2, 0);
        sheetIs("none", x, 0, "sort 2, size 0");
        x.sheet(0, 2, 2);
        sheetIs("none, then two", x, 0, "sort 2, size 2 0 0");
    }

    /** Promise 34: "or missing (sort -1: n does not matter): 1.": below 0, above 40; one that is missing, too. */
    static void aSheetGoesMissing() {
        for (int n : new int[] {0, 1, -1, 40, 41, LEAST, MOST}) {
            NameThrownBack x = Untouched.busy();
            Due.is("missing, n " + n, x.sheet(0, -1, n), 1);
            Due.is("is missing", x.cell(0, 0, 0), -11);
            Due.is("another one is not", x.cell(1, 0, 0), 1);
            Untouched.by("missing already, n " + n, Untouched::busy, y -> y.sheet(3, -1, n), 1);
        }
    }

    /** Promise 34: "BAD: SHEET, sort, n above 40; -14.": each too small and too large; BAD is ahead of -14. */
    static void sheetRefuses() {
        Untouched.byAll("sort", Untouched::busy, -2, x -> x.sheet(0, -2, 1), x -> x.sheet(0, 3, 1), x -> x.sheet(0, LEAST, 0),
            x -> x.sheet(0, MOST, 0));
        Untouched.byAll("n above 40", Untouched::busy, -2, x -> x.sheet(0, 0, 41), x -> x.sheet(0, 2, MOST));
        Untouched.byAll("n below 0", Untouched::busy, -14, x -> x.sheet(0, 0, -1), x -> x.sheet(3, 2, -1), x -> x.sheet(0, 1, LEAST));
        Untouched.byAll("ahead of n below 0", Untouched::busy, -2, x -> x.sheet(4, 0, -1), x -> x.sheet(-1, 0, -1), x -> x.sheet(0, 3, -1),
            x -> x.sheet(0, -2, -1));
    }

    /** Promise 35: "Number i of a SHEET becomes v (of bytes, shorts its lowest 8, 16 bits): 1.": the first, the last place; no other one. */
    static void cellsOfTheFirstAndTheLastPlace() {
        NameThrownBack x = Untouched.busy();
        Due.is("the first", x.cell(0, 0, 77), 1);
        Due.is("the last", x.cell(0, 5, 88), 1);
        sheetIs("of no other sheet", x, 1, "sort 0, size 3 49 51 48");
        sheetIs("no other one", x, 0, "sort 2, size 6 77 5 0 15 5 88");
    }

    /** What a number is in a row of a sort: -1 stands for what is no set of NAMES. */
    static void becomes(int sort, int v, int due) {
        NameThrownBack x = new NameThrownBack();
        x.sheet(0, sort, 1);
        Due.is("becomes " + v, x.cell(0, 0, v), 1);
        sheetIs(v + " in sort " + sort, x, 0, "sort " + sort + ", size 1 " + due);
    }

    /** Promise 35: "(of bytes, shorts its lowest 8, 16 bits)": a wrap-around at both ends of each; ints are whole. */
    static void cellsWrap() {
        int[][] bytes = {{127, 127}, {128, -1}, {255, -1}, {256, 0}, {257, 1}, {-1, -1}, {-128, -1}, {-129, 127}, {-256, 0}, {MOST, -1},
            {LEAST, 0}, {65536 + 5, 5}};
        for (int[] b : bytes) {
            becomes(0, b[0], b[1]);
        }
        int[][] shorts = {{127, 127}, {128, 128}, {255, 255}, {256, 256}, {32767, 32767}, {32768, -1}, {65535, -1}, {65536, 0},
            {65537, 1}, {-1, -1}, {-32768, -1}, {-32769, 32767}, {MOST, -1}, {LEAST, 0}};
        for (int[] b : shorts) {
            becomes(1, b[0], b[1]);
        }
        int[][] ints = {{127, 127}, {255, 255}, {32768, 32768}, {65535, 65535}, {65536, -1}, {-1, -1}, {MOST, -1}, {LEAST, -1}};
        for (int[] b : ints) {
            becomes(2, b[0], b[1]);
        }
    }

    /** Promise 35: "BAD: SHEET; -11; -12.": in this order; the place too small and too large. */
    static void cellRefuses() {
        Untouched.byAll("no sheet", Untouched::busy, -2, x -> x.cell(-1, 0, 1), x -> x.cell(4, 0, 1), x -> x.cell(4, -1, 1));
        Untouched.byAll("missing", Untouched::busy, -11, x -> x.cell(3, 0, 1), x -> x.cell(3, -1, 1), x -> x.cell(3, 40, 1));
        Untouched.byAll("outside", Untouched::busy, -12, x -> x.cell(0, -1, 1), x -> x.cell(0, 6, 1), x -> x.cell(1, 3, 1),
            x -> x.cell(0, LEAST, 1), x -> x.cell(0, MOST, 1));
        Untouched.by("of none", () -> sized(0, 0), x -> x.cell(0, 0, 1), -12);
        Untouched.by("of forty", () -> sized(40, 40), x -> x.cell(0, 40, 1), -12);
    }

    /** Sheets 0 and 1 of ints: of numbers from 1 on, from 101 on. */
    static NameThrownBack sized(int n, int other) {
        NameThrownBack x = new NameThrownBack();
        x.sheet(0, 2, n);
        x.sheet(1, 2, other);
        for (int i = 0; i < n; i++) {
            x.cell(0, i, 1 + i);
        }
        for (int i = 0; i < other; i++) {
            x.cell(1, i, 101 + i);
        }
        return x;
    }

    static void copied(String what, int i, int other, int j, int n, String due) {
        NameThrownBack x = sized(4, 3);
        Due.is(what, x.copy(0, i, other, j, n), n);
        sheetIs(what, x, other, due);
        if (other != 0) {
            sheetIs(what + ", from where", x, 0, "sort 2, size 4 1 2 3 4");
        }
    }

    /** Promise 36: "n numbers of a SHEET, from i on, come to another one's (or its own) place j (as they were): n.": none, one, all. */
    static void copyNoneOneAll() {
        copied("none", 0, 1, 0, 0, "sort 2, size 3 101 102 103");
        copied("none, at the ends", 4, 1, 3, 0, "sort 2, size 3 101 102 103");
        copied("the last to the last", 3, 1, 2, 1, "sort 2, size 3 101 102 4");
        copied("the first to the first", 0, 1, 0, 1, "sort 2, size 3 1 102 103");
        copied("all that have room", 1, 1, 0, 3, "sort 2, size 3 2 3 4");
        NameThrownBack x = sized(40, 40);
        StringBuilder due = new StringBuilder("sort 2, size 40");
        for (int i = 1; i <= 40; i++) {
            due.append(' ').append(i);
        }
        Due.is("forty", x.copy(0, 0, 1, 0, 40), 40);
        sheetIs("forty", x, 1, due.toString());
    }

    /** Promise 36: "(or its own) place j (as they were)": where they lie over one another, by one, ahead and behind. */
    static void copyWithinOne() {
        copied("one ahead", 0, 0, 1, 3, "sort 2, size 4 1 1 2 3");
        copied("one behind", 1, 0, 0, 3, "sort 2, size 4 2 3 4 4");
        copied("two ahead", 0, 0, 2, 2, "sort 2, size 4 1 2 1 2");
        copied("two behind", 2, 0, 0, 2, "sort 2, size 4 3 4 3 4");
        copied("the same place", 0, 0, 0, 4, "sort 2, size 4 1 2 3 4");
        copied("the last", 3, 0, 0, 1, "sort 2, size 4 4 2 3 4");
        copied("none", 4, 0, 4, 0, "sort 2, size 4 1 2 3 4");
    }

    /** Promise 36: "(as they were)": of each sort, ahead of what they come to; of bytes below 0, too. */
    static void copyAsTheyWere() {
        for (int sort = 0; sort < 3; sort++) {
            NameThrownBack x = new NameThrownBack();
            Due.row(x, 0, sort, 15, -1, 0);
            Due.row(x, 1, sort, 1, 1, 1);
            Due.is("sort " + sort, x.copy(0, 0, 1, 0, 3), 3);
            sheetIs("sort " + sort, x, 1, "sort " + sort + ", size 3 15 -1 0");
        }
    }

    /** Promise 36: "BAD: SHEETS; -11; -13: unlike sorts; -12 (n below 0, too).": in this order. */
    static void copyRefuses() {
        Untouched.byAll("no sheet", Untouched::busy, -2, x -> x.copy(-1, 0, 0, 0, 1), x -> x.copy(4, 0, 0, 0, 1), x -> x.copy(0, 0, -1, 0, 1),
            x -> x.copy(0, 0, 4, 0, 1), x -> x.copy(3, -1, 4, 0, 1), x -> x.copy(4, 0, 3, 0, -1));
        Untouched.byAll("missing", Untouched::busy, -11, x -> x.copy(3, 0, 0, 0, 1), x -> x.copy(0, 0, 3, 0, 1), x -> x.copy(3, 0, 3, 0, 0),
            x -> x.copy(3, -1, 0, 0, 1), x -> x.copy(0, 0, 3, 0, -1));
        Untouched.byAll("unlike", Untouched::busy, -13, x -> x.copy(0, 0, 1, 0, 1), x -> x.copy(1, 0, 2, 0, 1), x -> x.copy(2, -1, 0, 0, 1),
            x -> x.copy(0, 0, 1, 0, -1), x -> x.copy(0, 0, 1, 0, 0), x -> x.copy(0, 99, 1, 99, 99));
    }

    /** Promise 36: "-12 (n below 0, too)": each place and n by one too small, by one too large, and far off. */
    static void copyOutside() {
        int[][] places = {{-1, 0, 1}, {0, -1, 1}, {0, 0, -1}, {4, 0, 1}, {0, 3, 1}, {5, 0, 0}, {0, 4, 0}, {0, 0, 4}, {1, 0, 4}, {2, 0, 3},
            {0, 1, 3}, {-1, 0, 0}, {0, -1, 0}, {MOST, 0, 1}, {0, MOST, 1}, {0, 0, MOST}, {MOST, MOST, MOST}, {LEAST, 0, 1},
            {0, LEAST, 1}, {0, 0, LEAST}, {1, 0, MOST}, {4, 3, LEAST}};
        for (int[] o : places) {
            Untouched.by("copy " + o[0] + " " + o[1] + " " + o[2], () -> sized(4, 3), x -> x.copy(0, o[0], 1, o[1], o[2]), -12);
        }
        Untouched.by("to itself", () -> sized(4, 3), x -> x.copy(0, 0, 0, 1, 4), -12);
        Untouched.by("of none", () -> sized(0, 0), x -> x.copy(0, 0, 1, 0, 1), -12);
    }

    /** Sheet 0 tells five by two numbers each, of whom the third and the fourth can't come. */
    static NameThrownBack crew() {
        NameThrownBack x = new NameThrownBack();
        Due.row(x, 0, 2, 0, 0, 59, 65535, 60, 0, 0, 65536, 12, 3);
        return x;
    }

    /** Promise 37: "from a place on, two by two (as of fisher()), n of them (0 .. 6): how many came (others are left out).": none, one, all; those left out. */
    static void fishersByNoneOneAll() {
        Untouched.by("none", HostEdgesTest::crew, x -> x.fishersBy(0, 2, 0, 0), 0);
        int[] came = {0, 1, 2, 2, 2, 3};
        for (int n = 0; n <= 5; n++) {
            NameThrownBack x = crew();
            Due.is("of " + n, x.fishersBy(0, 2, 0, n), came[n]);
            Due.is("are there", x.count(0), came[n]);
        }
        NameThrownBack x = crew();
        x.fishersBy(0, 2, 0, 5);
        Due.is("the first", x.told(0, 0) + x.told(0, 3) + x.told(0, 4), 0);
        Due.is("the second knows", x.told(1, 0), 65535);
        Due.is("the second is", x.told(1, 3) * 10 + x.told(1, 4), 59);
        Due.is("the third knows", x.told(2, 0), 3);
        Due.is("the third is", x.told(2, 3) * 10 + x.told(2, 4), 12);
    }

    /** Promise 37: "n of them (0 .. 6): how many came (others are left out).": six; those who have no room are left out. */
    static void fishersBySix() {
        NameThrownBack x = new NameThrownBack();
        x.sheet(0, 0, 40);
        Due.is("six", x.fishersBy(0, 0, 0, 6), 6);
        Due.is("none has room", x.fishersBy(0, 0, 0, 6), 0);
        Due.is("six are there", x.count(0), 6);
        NameThrownBack y = Due.one(0, 0);
        y.sheet(0, 0, 12);
        Due.is("five have room", y.fishersBy(0, 0, 0, 6), 5);
    }

    /** Promise 37: "from a place on": the last two places, an odd one; by one too small, by one too large. */
    static void fishersByPlaces() {
        NameThrownBack x = crew();
        Due.is("the last two", x.fishersBy(0, 2, 8, 1), 1);
        Due.is("known", x.told(0, 0), 3);
        Due.is("an odd place", x.fishersBy(0, 2, 5, 1), 1);
        Due.is("known", x.told(1, 0), 0);
        Untouched.byAll("outside", HostEdgesTest::crew, -12, y -> y.fishersBy(0, 2, -1, 1), y -> y.fishersBy(0, 2, 9, 1),
            y -> y.fishersBy(0, 2, 10, 1), y -> y.fishersBy(0, 2, MOST, 1), y -> y.fishersBy(0, 2, MOST, 6),
            y -> y.fishersBy(0, 2, LEAST, 1), y -> y.fishersBy(0, 2, -2, 2));
        Untouched.by("of an empty row", () -> sized(0, 0), y -> y.fishersBy(0, 2, 0, 1), -12);
        Untouched.by("of one number", () -> sized(1, 0), y -> y.fishersBy(0, 2, 0, 1), -12);
    }

    /** Promise 37: "-12: what stood ahead came.": those ahead of the place that is outside, also where just its second number is. */
    static void fishersByWhatStoodAheadCame() {
        NameThrownBack x = crew();
        Due.is("six of five", x.fishersBy(0, 2, 0, 6), -12);
        Due.is("three came", x.count(0), 3);
        NameThrownBack y = sized(5, 0);
        Due.is("three of two and a half", y.fishersBy(0, 2, 0, 3), -12);
        Due.is("two came", y.count(0), 2);
        Due.is("the second knows", y.told(1, 0), 4);
        NameThrownBack z = sized(5, 0);
        Due.is("two of two and a half", z.fishersBy(0, 2, 0, 2), 2);
        Due.is("two of two, from 1", z.fishersBy(0, 2, 1, 2), 2);
        Due.is("three of two, from 1", z.fishersBy(0, 2, 1, 3), -12);
        Due.is("six are there", z.count(0), 6);
        Due.is("full, and outside", z.fishersBy(0, 2, 1, 3), -12);
    }

    /** Promise 37: "BAD: SHEET, sort, n; -11; -13": in this order, each too small and too large, ahead of -12. */
    static void fishersByRefuses() {
        Untouched.byAll("no sheet, no sort, n", Untouched::busy, -2, x -> x.fishersBy(-1, 0, 0, 1), x -> x.fishersBy(4, 0, 0, 1),
            x -> x.fishersBy(0, -1, 0, 1), x -> x.fishersBy(0, 3, 0, 1), x -> x.fishersBy(0, 2, 0, -1), x -> x.fishersBy(0, 2, 0, 7),
            x -> x.fishersBy(3, -1, 0, 1), x -> x.fishersBy(3, 0, 0, 7), x -> x.fishersBy(0, 0, 0, 7));
        Untouched.byAll("missing", Untouched::busy, -11, x -> x.fishersBy(3, 0, 0, 1), x -> x.fishersBy(3, 2, -1, 1), x -> x.fishersBy(3, 1, 0, 0));
        Untouched.byAll("of another sort", Untouched::busy, -13, x -> x.fishersBy(0, 0, 0, 1), x -> x.fishersBy(0, 1, 0, 1),
            x -> x.fishersBy(1, 1, 0, 1), x -> x.fishersBy(1, 2, -1, 1), x -> x.fishersBy(2, 2, 99, 1), x -> x.fishersBy(2, 0, 0, 0));
    }

    /** Promise 37: "two by two (as of fisher())": in bytes what is above 127, in shorts what is above 32767 is below 0, and left out. */
    static void fishersByBytesAndShorts() {
        int[][] told = {{0, 127, 1}, {0, 128, 0}, {0, 255, 0}, {1, 128, 1}, {1, 32767, 1}, {1, 32768, 0}, {1, 65535, 0}, {2, 32768, 1},
            {2, 65535, 1}};
        for (int[] t : told) {
            NameThrownBack x = new NameThrownBack();
            Due.row(x, 0, t[0], 59, t[1]);
            Due.is(t[1] + " of sort " + t[0], x.fishersBy(0, t[0], 0, 1), t[2]);
        }
    }

    /** Promise 38: "0 .. 5 FISHERS, 6 .. 11 what is KNOWN to them": the first and the last of each. */
    static void takenOfTheEnds() {
        Untouched.by("the first fisher", Untouched::full, x -> x.taken(0, 0), 0);
        Untouched.by("the last fisher", Untouched::full, x -> x.taken(5, 5), 5);
        Untouched.by("what the first knows", Untouched::full, x -> x.taken(6, 6), Due.bits(0, 5, 10));
        Untouched.by("what the last knows", Untouched::full, x -> x.taken(11, 6), Due.bits(5, 10, 15));
        Untouched.by("no name", () -> Due.one(0, 0), x -> x.taken(6, 6), 0);
        Untouched.by("all names", () -> Due.one(0, 65535), x -> x.taken(6, 6), 65535);
    }

    /** Promise 38: "taken for 0 .. 5 a FISHER of that KIND (also of one that is one): the number; 6 NAMES that are KNOWN (bits).": each KIND for each. */
    static void takenForEachKind() {
        int[] are = {Due.bits(0), Due.bits(0, 1), Due.bits(0, 2), Due.bits(0, 1, 3), Due.bits(0, 2, 4), Due.bits(0, 5)};
        NameThrownBack x = Untouched.full();
        for (int p = 0; p < 6; p++) {
            for (int kind = 0; kind < 6; kind++) {
                Due.is("one of kind " + p + " for " + kind, x.taken(p, kind), (are[p] >> kind & 1) == 1 ? p : -13);
                Due.is("what one knows for " + kind, x.taken(p + 6, kind), -13);
            }
            Due.is("one for names", x.taken(p, 6), -13);
            Due.is("what one knows for names", x.taken(p + 6, 6), Due.bits(p, p + 5, p + 10));
        }
    }

    /** Promise 38: "BAD: kind; -12: i; -11: none such; -13.": in this order, each too small and too large. */
    static void takenRefuses() {
        Untouched.byAll("kind", Untouched::busy, -2, x -> x.taken(0, -1), x -> x.taken(0, 7), x -> x.taken(12, 7), x -> x.taken(-1, -1),
            x -> x.taken(3, 7), x -> x.taken(6, MOST));
        Untouched.byAll("place", Untouched::busy, -12, x -> x.taken(-1, 0), x -> x.taken(12, 6), x -> x.taken(LEAST, 0), x -> x.taken(MOST, 0));
        Untouched.byAll("none such", Untouched::busy, -11, x -> x.taken(3, 0), x -> x.taken(5, 6), x -> x.taken(9, 6), x -> x.taken(11, 0));
        Untouched.byAll("nobody is there", Untouched::fresh, -11, x -> x.taken(0, 0), x -> x.taken(6, 6), x -> x.taken(6, 0));
        Untouched.byAll("of another kind", Untouched::busy, -13, x -> x.taken(0, 2), x -> x.taken(0, 6), x -> x.taken(6, 0), x -> x.taken(8, 5));
    }
}
