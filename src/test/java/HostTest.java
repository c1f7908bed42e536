/** Promises 34 to 38. */
public final class HostTest {
    public static void main(String[] args) {
        sheet();
        cell();
        copy();
        fishersBy();
        signs();
        taken();
        Due.end();
    }

    /** What stands in a row of ints, read off by fishers who come of it: so only KNOWN is told. */
    static int known(NameThrownBack x, int s, int sort, int place) {
        x.image();
        int came = x.fishersBy(s, sort, place, 1);
        int v = came == 1 ? x.told(x.count(0) - 1, 0) : -1;
        x.back();
        return v;
    }

    static void sheet() {
        NameThrownBack x = new NameThrownBack();
        Due.is("sheet 4", x.sheet(4, 0, 1), -2);
        Due.is("sheet -1", x.sheet(-1, 0, 1), -2);
        Due.is("sort 3", x.sheet(0, 3, 1), -2);
        Due.is("sort -2", x.sheet(0, -2, 1), -2);
        Due.is("n 41", x.sheet(0, 0, 41), -2);
        Due.is("n -1", x.sheet(0, 0, -1), -14);
        Due.is("bad ahead", x.sheet(0, 3, -1), -2);
        Due.is("still missing", x.cell(0, 0, 0), -11);
        Due.is("n 40", x.sheet(0, 2, 40), 1);
        Due.is("40 numbers", x.cell(0, 39, 5), 1);
        Due.is("not 41", x.cell(0, 40, 5), -12);
        x.cell(0, 1, 5);
        Due.is("known 5", known(x, 0, 2, 0), 5);
        x.sheet(0, 2, 40);
        Due.is("all 0", known(x, 0, 2, 0), 0);
        Due.is("all 0", known(x, 0, 2, 38), 0);
        Due.is("n 0", x.sheet(0, 1, 0), 1);
        Due.is("no number", x.cell(0, 0, 0), -12);
        Due.is("missing", x.sheet(0, -1, 99), 1);
        Due.is("is missing", x.cell(0, 0, 0), -11);
        Due.is("missing once more", x.sheet(0, -1, -99), 1);
        for (int s = 0; s < 4; s++) {
            Due.is("each sheet", x.sheet(s, 0, s), 1);
        }
        Due.is("is its own", x.cell(3, 2, 0) + x.cell(2, 1, 0) + x.cell(1, 0, 0), 3);
        Due.is("is its own", x.cell(2, 2, 0), -12);
    }

    static void cell() {
        NameThrownBack x = new NameThrownBack();
        Due.is("sheet 4", x.cell(4, 0, 0), -2);
        Due.is("sheet -1", x.cell(-1, 0, 0), -2);
        Due.is("missing", x.cell(0, -1, 0), -11);
        x.sheet(0, 2, 2);
        Due.is("place -1", x.cell(0, -1, 0), -12);
        Due.is("place 2", x.cell(0, 2, 0), -12);
        Due.is("place 1", x.cell(0, 1, 65535), 1);
        Due.is("ints are whole", known(x, 0, 2, 0), 65535);
        x.cell(0, 1, 65536 + 9);
        Due.is("ints are whole", known(x, 0, 2, 0), -1);
        x.sheet(0, 1, 2);
        x.cell(0, 1, 65536 * 3 + 32767);
        Due.is("shorts' lowest 16", known(x, 0, 1, 0), 32767);
        x.sheet(0, 0, 2);
        x.cell(0, 1, 256 * 3 + 127);
        Due.is("bytes' lowest 8", known(x, 0, 0, 0), 127);
    }

    static void copy() {
        NameThrownBack x = new NameThrownBack();
        Due.is("sheet 4", x.copy(4, 0, 0, 0, 0), -2);
        Due.is("sheet -1", x.copy(-1, 0, 0, 0, 0), -2);
        Due.is("other 4", x.copy(0, 0, 4, 0, 0), -2);
        Due.is("other -1", x.copy(0, 0, -1, 0, 0), -2);
        x.sheet(0, 2, 6);
        Due.is("other missing", x.copy(0, 0, 1, 0, 0), -11);
        Due.is("missing", x.copy(1, 0, 0, 0, 0), -11);
        x.sheet(1, 1, 6);
        Due.is("unlike ahead of outside", x.copy(0, -1, 1, 0, 0), -13);
        Due.row(x, 0, 2, 1, 2, 3, 4, 5, 6);
        Due.row(x, 1, 2, 7, 8, 9);
        int big = Integer.MAX_VALUE;
        int[][] outside = {{-1, 0, 1}, {0, -1, 1}, {0, 0, -1}, {0, 0, 4}, {4, 0, 3}, {0, 1, 3}, {7, 0, 0}, {0, 4, 0},
            {big, 0, 1}, {0, big, 1}, {0, 0, big}, {1, 1, big}, {big, big, big}, {Integer.MIN_VALUE, 0, 0}};
        for (int[] o : outside) {
            Due.is("outside " + o[0] + ", " + o[1] + ", " + o[2], x.copy(0, o[0], 1, o[1], o[2]), -12);
        }
        row(x, 0, 1, 2, 3, 4, 5, 6);
        row(x, 1, 7, 8, 9);
        Due.is("none at the ends", x.copy(0, 6, 1, 3, 0), 0);
        Due.is("copy", x.copy(0, 3, 1, 1, 2), 2);
        row(x, 1, 7, 4, 5);
        row(x, 0, 1, 2, 3, 4, 5, 6);
        Due.is("to itself, ahead", x.copy(0, 0, 0, 2, 4), 4);
        row(x, 0, 1, 2, 1, 2, 3, 4);
        Due.is("to itself, behind", x.copy(0, 1, 0, 0, 5), 5);
        row(x, 0, 2, 1, 2, 3, 4, 4);
        Due.is("whole", x.copy(0, 0, 0, 0, 6), 6);
        row(x, 0, 2, 1, 2, 3, 4, 4);
        Due.is("to another one ahead", x.copy(1, 0, 0, 1, 3), 3);
        row(x, 0, 2, 7, 4, 5, 4, 4);
    }

    /** Each number of a row, as KNOWN of who comes by it behind a 0 in another row. */
    static void row(NameThrownBack x, int s, int... numbers) {
        for (int i = 0; i < numbers.length; i++) {
            x.sheet(3, 2, 2);
            x.copy(s, i, 3, 1, 1);
            Due.is("number " + i + " of " + s, known(x, 3, 2, 0), numbers[i]);
        }
    }

    static void fishersBy() {
        NameThrownBack x = new NameThrownBack();
        Due.is("missing", x.fishersBy(0, 2, 0, 1), -11);
        Due.row(x, 0, 2, 47, 65535, 60, 1, 12, 65536, 3, 9);
        Due.is("sheet 4", x.fishersBy(4, 2, 0, 1), -2);
        Due.is("sheet -1", x.fishersBy(-1, 2, 0, 1), -2);
        Due.is("sort 3", x.fishersBy(0, 3, 0, 1), -2);
        Due.is("sort -1", x.fishersBy(0, -1, 0, 1), -2);
        Due.is("sort -1 of a missing one", x.fishersBy(1, -1, 0, 1), -2);
        Due.is("n 7", x.fishersBy(0, 2, 0, 7), -2);
        Due.is("n -1", x.fishersBy(0, 2, 0, -1), -2);
        Due.is("unlike ahead of outside", x.fishersBy(0, 1, -1, 1), -13);
        Due.is("bad ahead of missing", x.fishersBy(1, 2, 0, 7), -2);
        Due.is("place -1", x.fishersBy(0, 2, -1, 1), -12);
        Due.is("place 7", x.fishersBy(0, 2, 7, 1), -12);
        Due.is("place 8", x.fishersBy(0, 2, 8, 1), -12);
        Due.is("far places", x.fishersBy(0, 2, Integer.MAX_VALUE, 6), -12);
        Due.is("far places", x.fishersBy(0, 2, Integer.MIN_VALUE, 6), -12);
        Due.is("nobody came", x.count(0), 0);
        Due.is("none", x.fishersBy(0, 2, 0, 0), 0);
        Due.is("two of four", x.fishersBy(0, 2, 0, 4), 2);
        Due.is("the first", x.told(0, 3) * 10 + x.told(0, 4), 47);
        Due.is("the first knows", x.told(0, 0), 65535);
        Due.is("the second", x.told(1, 3) * 10 + x.told(1, 4), 3);
        Due.is("the second knows", x.told(1, 0), 9);
        Due.is("outside", x.fishersBy(0, 2, 4, 3), -12);
        Due.is("what stood ahead came", x.count(0), 3);
        Due.is("from an odd place, too", x.fishersBy(0, 2, 3, 1), 1);
        Due.is("from 1, 12", x.told(3, 4) * 100 + x.told(3, 0), 112);
        Due.row(x, 1, 0, 1, 1, 2, 2, 3, 3, 4, 4, 5, 5);
        Due.is("two have room", x.fishersBy(1, 0, 0, 5), 2);
        Due.is("six are there", x.count(0), 6);
        Due.is("full and outside", x.fishersBy(1, 0, 0, 6), -12);
    }

    /** Bytes and shorts are Java's: what is above 127, 32767 is below 0, so it is no KNOWN. */
    static void signs() {
        NameThrownBack x = new NameThrownBack();
        Due.row(x, 0, 0, 1, 128);
        Due.is("a byte of 128", x.fishersBy(0, 0, 0, 1), 0);
        Due.row(x, 0, 1, 1, 32768);
        Due.is("a short of 32768", x.fishersBy(0, 1, 0, 1), 0);
        Due.row(x, 0, 1, 1, 128);
        Due.is("a short of 128", x.fishersBy(0, 1, 0, 1), 1);
    }

    static void taken() {
        NameThrownBack x = new NameThrownBack();
        for (int kind = 0; kind < 6; kind++) {
            x.fisher(10 * kind, 100 + kind);
        }
        int[] are = {Due.bits(0), Due.bits(0, 1), Due.bits(0, 2), Due.bits(0, 1, 3), Due.bits(0, 2, 4), Due.bits(0, 5)};
        for (int p = 0; p < 6; p++) {
            for (int kind = 0; kind < 6; kind++) {
                Due.is("taken " + p + " for " + kind, x.taken(p, kind), (are[p] >> kind & 1) == 1 ? p : -13);
                Due.is("names for " + kind, x.taken(p + 6, kind), -13);
            }
            Due.is("a fisher for names", x.taken(p, 6), -13);
            Due.is("names", x.taken(p + 6, 6), 100 + p);
        }
        NameThrownBack y = new NameThrownBack();
        y.fisher(0, 0);
        Due.is("no names are names", y.taken(6, 6), 0);
        Due.is("nobody", y.taken(1, 0), -11);
        Due.is("nobody's names", y.taken(7, 6), -11);
        Due.is("nobody ahead of unlike", y.taken(7, 0), -11);
        Due.is("place 12", y.taken(12, 0), -12);
        Due.is("place -1", y.taken(-1, 6), -12);
        Due.is("kind 7", y.taken(0, 7), -2);
        Due.is("kind -1", y.taken(0, -1), -2);
        Due.is("bad ahead of outside", y.taken(12, 7), -2);
    }
}
