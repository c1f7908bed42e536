/** Promises 16 and 17. */
public final class SeasonTest {
    public static void main(String[] args) {
        season();
        withAnother();
        tideMatters();
        refusals();
        fish();
        Due.end();
    }

    static void season() {
        NameThrownBack x = new NameThrownBack();
        x.fisher(0, Due.bits(2, 5, 9));
        x.fisher(0, 0);
        Due.row(x, 0, 2, 4, 0, 4, 9, 9);
        String was = Due.seen(x);
        // 4: 5 goes, and is washed up to the other one; 0: 2 goes, and comes back, since both have
        // one then; 4: likewise; 9: 9 goes, and comes back; 9: likewise
        Due.is("known", x.season(0, 0, 0), 2);
        Due.is("luck", x.season(0, 0, 1), 75);
        Due.is("the sea", x.season(0, 0, 2), 0);
        Due.is("landings without", x.season(0, 0, 3), 0);
        Due.is("kept without a name", x.season(0, 0, 4), Due.bits(0, 4));
        Due.holds("it was thought only", was.equals(Due.seen(x)));
        x.shore(1, Due.bits(0, 1, 2, 3));
        x.put(0, 0, Due.bits(5, 9));
        // 4: 5 goes, 0 is washed up to the other one (none known); 0: 9 goes, 1 is washed up to the
        // one; 4, 9, 9: 1 goes, and comes back
        Due.is("the sea is fuller", x.season(0, 0, 2), Due.bits(2, 3, 5, 9));
        x.sheet(1, 0, 0);
        Due.is("none, known", x.season(1, 0, 0), 2);
        Due.is("none, luck", x.season(1, 0, 1), 50);
        Due.is("none, the sea", x.season(1, 0, 2), 15);
        Due.is("none, landings without", x.season(1, 0, 3), 0);
        Due.is("none, kept without a name", x.season(1, 0, 4), 0);
        x.put(0, 1, Due.bits(5, 6));
        Due.is("none, what was kept", x.season(1, 0, 4), Due.bits(6));
    }

    static void withAnother() {
        NameThrownBack x = new NameThrownBack();
        x.fisher(0, 65535);
        x.fisher(0, 0);
        Due.row(x, 0, 0, 0, 0, 0);
        // who has none keeps losing none, and gets none while nothing lies in the sea
        Due.is("landings without", x.season(0, 1, 3), 3);
        x.shore(1, Due.bits(7));
        // the tide behind the first landing brings it 7; the second throws it back, and again it comes
        Due.is("landings without", x.season(0, 1, 3), 1);
        Due.is("known", x.season(0, 1, 0), 1);
        x.shore(1, Due.bits(0));
        Due.is("name 0 is one, too", x.season(0, 1, 3), 1);
    }

    static void tideMatters() {
        NameThrownBack x = new NameThrownBack();
        x.fisher(0, 0);
        x.shore(0, 999);
        Due.law(x, "lets 0;lucks tide - 1000;takes 0;");
        Due.row(x, 0, 1, 1, 2, 3);
        // -1, 0, 1: in thought the tide passes 999
        Due.is("luck", x.season(0, 0, 1), 50);
        Due.row(x, 0, 1, 1, 2, 3, 4);
        Due.is("luck", x.season(0, 0, 1), 52);
    }

    static void refusals() {
        NameThrownBack x = new NameThrownBack();
        Due.is("sheet 4", x.season(4, 0, 9), -2);
        Due.is("sheet -1", x.season(-1, 0, 0), -2);
        Due.is("missing", x.season(3, 0, 9), -11);
        Due.row(x, 3, 2, 0, 15, 16);
        Due.is("no thing", x.season(3, 0, 9), -2);
        Due.row(x, 3, 2, -1);
        Due.is("no thing", x.season(3, 0, 9), -2);
        Due.row(x, 3, 2, 0, 15);
        Due.is("nobody", x.season(3, 0, 9), -5);
        x.fisher(0, 0);
        Due.is("nobody", x.season(3, -1, 0), -5);
        Due.is("season(5)", x.season(3, 0, 5), -7);
        Due.is("season(-1)", x.season(3, 0, -1), -7);
        Due.is("fish: sheet 4", x.fish(4, 9), -2);
        Due.is("fish: sheet -1", x.fish(-1, 0), -2);
        Due.is("fish: missing", x.fish(0, 9), -11);
        Due.row(x, 0, 0, 3, 99);
        Due.is("fish: no thing", x.fish(0, 9), -2);
        x.shore(0, 998);
        Due.is("fish: nobody", x.fish(3, 1), -5);
        Due.is("fish: tide 1000", x.fish(3, 0), -3);
        Due.is("the tide stays", x.count(2), 998);
        Due.is("nothing is kept", x.told(0, 1), 0);
        x.shore(0, 997);
        Due.is("fish: tide 999", x.fish(3, 0), 0);
        Due.is("the tide went", x.count(2), 999);
        x.sheet(0, 0, 0);
        Due.is("fish: no landing", x.fish(0, 0), 0);
    }

    static void fish() {
        NameThrownBack x = new NameThrownBack();
        x.fisher(0, Due.bits(2, 5, 9));
        x.fisher(0, Due.bits(0, 1));
        Due.row(x, 0, 0, 4, 0);
        // 4: 5 goes, and comes back (2 known to both, the one is the first); 0: 2 goes, and comes back
        Due.is("fish", x.fish(0, 0), 3);
        Due.is("known", x.told(0, 0), Due.bits(2, 5, 9));
        Due.is("kept", x.told(0, 1), Due.bits(0, 4));
        Due.is("luck", x.told(0, 2), 60);
        Due.is("tide", x.count(2), 2);
        x.put(1, 0, 0);
        // 5 goes to the other one, 2 comes back
        Due.is("fish again", x.fish(0, 0), 2);
        Due.is("known", x.told(0, 0), Due.bits(2, 9));
        Due.is("the other one found", x.told(1, 0), Due.bits(5));
        Due.is("tide", x.count(2), 4);
        Due.is("the sea", x.count(1), 0);
    }
}
