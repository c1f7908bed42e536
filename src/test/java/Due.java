/** What the tests share: answers that are due, and the calls that come up again and again. */
final class Due {
    private static int wrong = 0;
    private static int asked = 0;
    private static String test = "";

    private Due() { }

    /** Of which test the answers are that come now. */
    static void test(String name) {
        test = name + ": ";
    }

    static void is(String call, long got, long want) {
        asked++;
        if (got != want) {
            wrong++;
            System.out.println(test + call + " answered " + got + ", due is " + want);
        }
    }

    static void holds(String what, boolean so) {
        is(what, so ? 1 : 0, 1);
    }

    static void end() {
        System.out.println(wrong == 0 ? asked + " answers, all as due" : wrong + " of " + asked + " are not as due");
        if (wrong != 0) {
            System.exit(1);
        }
    }

    static void feed(NameThrownBack x, String text) {
        for (int i = 0; i < text.length(); i++) {
            x.feed(1, text.charAt(i), 0, 0, 0, 0);
        }
    }

    /** Feeds a text and reads it. */
    static int text(NameThrownBack x, String text) {
        feed(x, text);
        return x.text();
    }

    /** A text by which all that is asked for is so. */
    static int law(NameThrownBack x, String text) {
        int t = text(x, text);
        x.force(t);
        return t;
    }

    static void row(NameThrownBack x, int s, int sort, int... numbers) {
        x.sheet(s, sort, numbers.length);
        for (int i = 0; i < numbers.length; i++) {
            x.cell(s, i, numbers[i]);
        }
    }

    /** A new object with one fisher. */
    static NameThrownBack one(int kindMore, int known) {
        NameThrownBack x = new NameThrownBack();
        x.fisher(kindMore, known);
        return x;
    }

    static int bits(int... ones) {
        int set = 0;
        for (int i : ones) {
            set |= 1 << i;
        }
        return set;
    }

    /** All that can be seen of an object without changing it, but for its sheets. */
    static String seen(NameThrownBack x) {
        StringBuilder all = new StringBuilder();
        for (int what = 0; what < 6; what++) {
            all.append(x.count(what)).append(' ');
        }
        for (int p = 0; p < x.count(0); p++) {
            all.append('|');
            for (int what = 0; what < 7; what++) {
                all.append(x.told(p, what)).append(' ');
            }
        }
        int sea = x.shore(1, 0);
        x.shore(1, sea);
        return all.append('|').append(sea).toString();
    }
}
