/**
 * Whether a call leaves all as it was. What the tape, the texts, the image and the sheets hold is seen
 * only by calls that change something; so each look is at two new objects, one with the call, one without.
 */
final class Untouched {
    interface Scene { NameThrownBack make(); }

    interface Call { long on(NameThrownBack x); }

    private static final int LOOKS = 9;

    private Untouched() { }

    /** The call answers what is due, and nothing that any call could see is otherwise by it. */
    static void by(String call, Scene scene, Call asked, long due) {
        Due.is(call, asked.on(scene.make()), due);
        for (int k = 0; k < LOOKS; k++) {
            NameThrownBack without = scene.make();
            NameThrownBack with = scene.make();
            asked.on(with);
            String was = look(k, without);
            String is = look(k, with);
            Due.holds(call + " leaves " + was + " (is " + is + ")", was.equals(is));
        }
    }

    /** The same of several calls that are refused alike. */
    static void byAll(String calls, Scene scene, long due, Call... asked) {
        for (int k = 0; k < asked.length; k++) {
            by(calls + ", number " + k, scene, asked[k], due);
        }
    }

    private static String look(int k, NameThrownBack x) {
        switch (k) {
            case 0: return Due.seen(x);
            case 1: return "image " + x.back() + " " + Due.seen(x);
            case 2: return "texts" + texts(x, 0);
            case 3: return "tape " + tape(x, "");
            case 4: return "tape and its end " + tape(x, ";");
            default: return "sheet " + sheet(x, k - 5);
        }
    }

    private static String texts(NameThrownBack x, int from) {
        if (x.count(0) == 0) {
            x.fisher(27, 5);
        }
        StringBuilder all = new StringBuilder();
        for (int t = from; t < x.count(3); t++) {
            x.force(t);
            for (int part = 0; part < 3; part++) {
                for (int thing = 0; thing < 3; thing++) {
                    all.append(' ').append(x.asks(part, 0, 7 * thing));
                }
            }
        }
        return all.toString();
    }

    private static String tape(NameThrownBack x, String end) {
        Due.feed(x, end);
        int t = x.text();
        return t + " of " + x.count(3) + (t > 0 ? texts(x, t) : "");
    }

    /** Its sort, its size, and each number as the KNOWN of who comes by a 0 and by it (-1: nobody comes). */
    static String sheet(NameThrownBack x, int s) {
        x.back();
        int sort = 0;
        while (sort < 3 && x.fishersBy(s, sort, 0, 0) != 0) {
            sort++;
        }
        int size = 0;
        while (size < 41 && x.copy(s, size, s, size, 1) == 1) {
            size++;
        }
        StringBuilder all = new StringBuilder(s + ": sort " + sort + ", size " + size);
        if (sort == 3 || x.count(0) == 6) {
            return all.toString();
        }
        x.image();
        int beside = (s + 1) % 4;
        x.sheet(beside, sort, 2);
        for (int i = 0; i < size; i++) {
            x.copy(s, i, beside, 1, 1);
            boolean came = x.fishersBy(beside, sort, 0, 1) == 1;
            all.append(' ').append(came ? x.told(x.count(0) - 1, 0) : -1);
            x.back();
        }
        return all.toString();
    }

    /** A scene in which there is some of everything; sheet 3 is missing. */
    static NameThrownBack busy() {
        NameThrownBack x = new NameThrownBack();
        x.fisher(14, Due.bits(2, 5, 9));
        x.fisher(27, Due.bits(0, 1, 2, 3));
        x.shore(1, Due.bits(7));
        x.shore(0, 5);
        x.image();
        x.fisher(43, Due.bits(4));
        x.put(0, 1, Due.bits(2, 6));
        x.put(1, 2, 77);
        x.shore(1, Due.bits(8, 11));
        x.shore(0, 17);
        Due.law(x, "lets thing+1;lucks 3-more;takes 3;");
        Due.text(x, "lets 2;lucks known;takes tide;");
        Due.feed(x, "lets 1;lucks 2;takes 4");
        Due.row(x, 0, 2, 3, 5, 0, 15, 5, 9);
        Due.row(x, 1, 0, 49, 51, 48);
        Due.row(x, 2, 1, 1, 2, 300, 32767);
        return x;
    }

    /** Nobody, nothing. */
    static NameThrownBack fresh() {
        return new NameThrownBack();
    }

    /** Six fishers, each with MORE 3, by KINDS; six texts; a tape of 160 bytes; sheet 0 of 40 ints. */
    static NameThrownBack full() {
        NameThrownBack x = new NameThrownBack();
        x.image();
        for (int kind = 0; kind < 6; kind++) {
            x.fisher(10 * kind + 3, Due.bits(kind, kind + 5, kind + 10));
        }
        for (int t = 1; t < 6; t++) {
            Due.text(x, "lets " + t + ";lucks 1;takes 2;");
        }
        for (int i = 0; i < 32; i++) {
            x.feed(5, 'a', ' ', 'b', ' ', 'c');
        }
        x.sheet(0, 2, 40);
        x.shore(1, 65535);
        return x;
    }
}
