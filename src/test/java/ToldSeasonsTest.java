/** Promises 23 to 29. */
public final class ToldSeasonsTest {
    public static void main(String[] args) {
        judge();
        kinds();
        turned();
        lucks();
        whose();
        laws();
        film();
        refusals();
        Due.end();
    }

    /** An uncle of MORE 4 who knows 2, 5: 5 more by what is known, 1 more by what is not. */
    static NameThrownBack uncle() {
        NameThrownBack x = new NameThrownBack();
        x.fisher(14, Due.bits(2, 5));
        return x;
    }

    static void judge() {
        NameThrownBack x = uncle();
        String was = Due.seen(x);
        Due.row(x, 0, 0, 2, 3, 5);
        // alone: what one throws back comes back
        Due.row(x, 1, 2, 55, 56, 61);
        Due.is("as told", x.judge(0, 1, 0), -1);
        x.cell(1, 0, 54);
        Due.is("first", x.judge(0, 1, 0), 0);
        x.cell(1, 0, 55);
        x.cell(1, 1, -56);
        x.cell(1, 2, 99);
        Due.is("second", x.judge(0, 1, 0), 1);
        x.cell(1, 1, 56);
        Due.is("third", x.judge(0, 1, 0), 2);
        Due.row(x, 1, 1, 55, 56);
        Due.is("less is told", x.judge(0, 1, 0), -1);
        x.sheet(1, 0, 0);
        Due.is("nothing is told", x.judge(0, 1, 0), -1);
        x.sheet(0, 0, 0);
        Due.is("nothing is landed", x.judge(0, 1, 0), -1);
        Due.row(x, 2, 2, 0, 1);
        Due.is("one and the same may be both", x.judge(2, 2, 0), 0);
        Due.holds("it was thought only", was.equals(Due.seen(x)));
    }

    static void kinds() {
        NameThrownBack x = uncle();
        Due.row(x, 0, 0, 2, 3);
        Due.row(x, 1, 0, 55, 56);
        Due.is("an uncle or an old one", x.kinds(0, 1, 0, 0), Due.bits(1, 3));
        Due.is("more 4", x.kinds(0, 1, 0, 1), Due.bits(4));
        Due.row(x, 1, 0, 55, 60);
        Due.is("a fisher or a mute", x.kinds(0, 1, 0, 0), Due.bits(0, 5));
        Due.is("more 0", x.kinds(0, 1, 0, 1), Due.bits(0));
        Due.row(x, 1, 0, 52, 54);
        Due.is("a master", x.kinds(0, 1, 0, 0), Due.bits(2));
        Due.is("by no more", x.kinds(0, 1, 0, 1), 0);
        Due.row(x, 1, 0, 54, 56);
        Due.is("a girl", x.kinds(0, 1, 0, 0), Due.bits(4));
        x.sheet(1, 0, 0);
        Due.is("any", x.kinds(0, 1, 0, 0), 63);
        Due.is("any more", x.kinds(0, 1, 0, 1), 1023);
        Due.is("kinds(2)", x.kinds(0, 1, 0, 2), -7);
        Due.is("kinds(-1)", x.kinds(0, 1, 0, -1), -7);
        Due.is("it was thought only", x.told(0, 3) * 10 + x.told(0, 4), 14);
    }

    static void turned() {
        NameThrownBack x = uncle();
        Due.row(x, 0, 0, 2, 3);
        Due.row(x, 1, 0, 55, 60);
        Due.is("3 were known", x.turned(0, 1, 0), Due.bits(3));
        Due.row(x, 1, 0, 51, 52);
        Due.is("2 were not", x.turned(0, 1, 0), Due.bits(2));
        Due.row(x, 1, 0, 55, 56);
        Due.is("any other", x.turned(0, 1, 0), 65535 - Due.bits(2, 3));
        Due.row(x, 1, 0, 0);
        Due.is("none", x.turned(0, 1, 0), 0);
        Due.is("it was thought only", x.told(0, 0), Due.bits(2, 5));
    }

    static void lucks() {
        NameThrownBack x = uncle();
        Due.row(x, 0, 0, 2, 3);
        Due.row(x, 1, 0, 55, 56);
        Due.is("one", x.lucks(0, 1, 0, 0), 1);
        Due.is("it", x.lucks(0, 1, 0, 1), 50);
        Due.row(x, 1, 0, 99, 99);
        Due.is("many", x.lucks(0, 1, 0, 0), 6);
        Due.is("the least", x.lucks(0, 1, 0, 1), 94);
        x.sheet(1, 0, 0);
        Due.is("any", x.lucks(0, 1, 0, 0), 100);
        Due.is("any", x.lucks(0, 1, 0, 1), 0);
        Due.row(x, 1, 0, 4);
        Due.is("none", x.lucks(0, 1, 0, 0), 0);
        Due.is("none", x.lucks(0, 1, 0, 1), -1);
        Due.is("lucks(2)", x.lucks(0, 1, 0, 2), -7);
        Due.is("lucks(-1)", x.lucks(0, 1, 0, -1), -7);
        Due.is("it was thought only", x.told(0, 2), 50);
    }

    static void whose() {
        NameThrownBack x = new NameThrownBack();
        Due.row(x, 0, 0, 2, 3);
        Due.row(x, 1, 0, 55, 60);
        Due.is("nobody", x.whose(0, 1), 0);
        x.fisher(14, Due.bits(2, 5));
        x.fisher(3, 0);
        x.fisher(24, 65535);
        x.fisher(53, 4);
        Due.is("the fisher and the mute", x.whose(0, 1), Due.bits(1, 3));
        x.put(3, 2, 51);
        Due.is("the fisher", x.whose(0, 1), Due.bits(1));
        x.sheet(1, 0, 0);
        Due.is("any", x.whose(0, 1), 15);
    }

    static void laws() {
        NameThrownBack x = uncle();
        Due.row(x, 0, 0, 2, 3);
        Due.row(x, 1, 0, 55, 56);
        Due.text(x, "lets 0;lucks 5;takes 0;");
        Due.text(x, "lets 0;lucks 4;takes 0;");
        Due.text(x, "lets 1;lucks 2 + 3 * (tide < 2);takes 0;");
        Due.is("texts", x.laws(0, 1, 0), Due.bits(0, 1, 3));
        Due.is("it was thought only", x.count(4), 0);
        x.force(2);
        Due.is("texts", x.laws(0, 1, 0), Due.bits(0, 1, 3));
        x.shore(0, 1);
        Due.is("texts, a tide on", x.laws(0, 1, 0), Due.bits(0, 1));
        x.sheet(1, 0, 0);
        Due.is("any", x.laws(0, 1, 0), 15);
    }

    static void film() {
        NameThrownBack x = uncle();
        Due.row(x, 0, 2, 2, 3, 5);
        Due.row(x, 1, 1, 7, 7, 7, 7, 7);
        String was = Due.seen(x);
        Due.is("film", x.film(0, 1, 0), 3);
        Due.is("is so", x.judge(0, 1, 0), -1);
        Due.is("luck 50 alone", x.lucks(0, 1, 0, 1), 50);
        Due.is("three numbers", x.cell(1, 3, 0), -12);
        Due.is("bytes", x.copy(1, 0, 1, 0, 3) + x.fishersBy(1, 0, 0, 0), 3);
        Due.is("not shorts", x.fishersBy(1, 1, 0, 0), -13);
        Due.holds("the season was thought only", was.equals(Due.seen(x)));
        Due.is("a missing one", x.film(0, 2, 0), 3);
        x.sheet(3, 0, 0);
        Due.is("no landing", x.film(3, 2, 0), 0);
        Due.is("an empty row", x.cell(2, 0, 0), -12);
        Due.is("one and the same", x.film(0, 0, 0), -2);
        Due.is("sheet told 4", x.film(0, 4, 0), -2);
        Due.is("sheet told -1", x.film(0, -1, 0), -2);
        Due.is("sheet 4", x.film(4, 1, 0), -2);
        Due.is("sheet -1", x.film(-1, 1, 0), -2);
        x.sheet(3, -1, 0);
        Due.is("missing", x.film(3, 1, 0), -11);
        Due.is("one and the same ahead of missing", x.film(3, 3, 0), -2);
        Due.row(x, 3, 2, 16);
        Due.is("no season ahead of nobody", x.film(3, 1, 1), -2);
        Due.is("nobody", x.film(0, 1, 1), -5);
        Due.is("nobody", x.film(0, 1, -1), -5);
        Due.is("the row stays", x.judge(0, 1, 0), -1);
    }

    static void refusals() {
        NameThrownBack x = new NameThrownBack();
        refuse(x, "told 4 ahead of s missing", 0, 4, 0, -2);
        refuse(x, "told -1", 0, -1, 0, -2);
        refuse(x, "s 4", 4, 1, 0, -2);
        refuse(x, "s -1", -1, 1, 0, -2);
        refuse(x, "s missing", 0, 1, 0, -11);
        Due.row(x, 0, 2, 3, 16);
        refuse(x, "no season ahead of told missing", 0, 1, 0, -2);
        Due.row(x, 0, 2, 3, 15);
        refuse(x, "told missing", 0, 1, 0, -11);
        Due.row(x, 1, 2, 3, 15, 1);
        refuse(x, "told is more", 0, 1, 0, -2);
        Due.row(x, 1, 2, 3, 15);
        for (int p = -1; p < 2; p++) {
            Due.is("nobody judged", x.judge(0, 1, p), -5);
            Due.is("nobody's kinds", x.kinds(0, 1, p, 9), -5);
            Due.is("nobody turned", x.turned(0, 1, p), -5);
            Due.is("nobody's lucks", x.lucks(0, 1, p, 9), -5);
            Due.is("nobody's laws", x.laws(0, 1, p), -5);
        }
    }

    static void refuse(NameThrownBack x, String why, int s, int told, int p, int due) {
        Due.is("judge: " + why, x.judge(s, told, p), due);
        Due.is("kinds: " + why, x.kinds(s, told, p, 9), due);
        Due.is("turned: " + why, x.turned(s, told, p), due);
        Due.is("lucks: " + why, x.lucks(s, told, p, 9), due);
        Due.is("whose: " + why, x.whose(s, told), due);
        Due.is("laws: " + why, x.laws(s, told, p), due);
    }
}
