/** Promises 18 to 22. */
public final class BestTest {
    public static void main(String[] args) {
        which();
        taught();
        lessons();
        lessonsInOrder();
        when();
        share();
        Due.end();
    }

    static void which() {
        NameThrownBack x = new NameThrownBack();
        x.fisher(14, Due.bits(6, 8));
        Due.is("the first one that is known", x.which(0, 0), 6);
        Due.is("luck then", x.which(0, 1), 55);
        x.put(0, 1, Due.bits(6));
        Due.is("it is kept", x.which(0, 0), 8);
        x.put(0, 1, Due.bits(0, 6, 8));
        Due.is("of strange ones the first", x.which(0, 0), 1);
        Due.is("luck then", x.which(0, 1), 51);
        x.put(0, 1, 65535);
        Due.is("all are kept", x.which(0, 0), -1);
        Due.is("luck as it is", x.which(0, 1), 50);
        x.put(0, 1, 0);
        Due.law(x, "lets 0;lucks thing * 10 - 50;takes 0;");
        // 10 is strange: 46 more; 11: 56 more, and luck is bounded
        Due.is("the first to the bound", x.which(0, 0), 11);
        Due.is("luck then", x.which(0, 1), 99);
        x.put(0, 2, 99);
        // 5 is not known: 4 less
        Due.is("luck is bounded, so they are like", x.which(0, 0), 6);
        Due.law(x, "lets 0;lucks -10;takes 0;");
        Due.is("also when it falls", x.which(0, 0), 6);
        Due.is("luck then", x.which(0, 1), 89);
        Due.law(x, "lets 0;lucks -99;takes 0;");
        Due.is("down to 0", x.which(0, 1), 0);
        Due.is("where they are like", x.which(0, 0), 0);
        Due.is("which(2)", x.which(0, 2), -7);
        Due.is("which(-1)", x.which(0, -1), -7);
        Due.is("nobody", x.which(1, 2), -5);
        Due.is("nobody", x.which(-1, 0), -5);
        Due.is("nothing is kept", x.told(0, 1), 0);
    }

    static void taught() {
        NameThrownBack x = new NameThrownBack();
        x.fisher(0, Due.bits(0, 1));
        Due.is("nobody else", x.taught(0, 0), -1);
        Due.is("none", x.taught(0, 1), 0);
        x.fisher(0, Due.bits(0, 2));
        x.fisher(0, Due.bits(1, 3, 4));
        x.fisher(0, Due.bits(3, 4, 5));
        Due.is("of like ones the first", x.taught(0, 0), 2);
        Due.is("as many as one takes", x.taught(0, 1), 2);
        Due.is("by 1", x.taught(1, 0), 2);
        x.put(2, 0, Due.bits(0, 1));
        Due.is("most", x.taught(0, 0), 3);
        x.put(3, 0, Due.bits(1));
        Due.is("only one", x.taught(0, 0), 1);
        Due.is("one name", x.taught(0, 1), 1);
        x.put(0, 0, 65535);
        Due.is("nobody has any", x.taught(0, 0), -1);
        Due.is("none", x.taught(0, 1), 0);
        Due.is("taught(2)", x.taught(0, 2), -7);
        Due.is("taught(-1)", x.taught(0, -1), -7);
        Due.is("nobody", x.taught(4, 2), -5);
        Due.is("nobody", x.taught(-1, 0), -5);
        Due.is("nothing is learned", x.told(1, 0), Due.bits(0, 2));
    }

    static void lessons() {
        NameThrownBack x = new NameThrownBack();
        x.fisher(0, 0);
        x.fisher(0, Due.bits(0, 1, 2, 3));
        x.fisher(0, Due.bits(0, 1, 2, 3, 4, 5, 6, 7));
        String was = Due.seen(x);
        expect(x, 1, 3, 0, 0);
        expect(x, 0, 1, 1, 11);
        expect(x, 0, 2, 2, 1111);
        expect(x, 0, 3, 2, 1111);
        expect(x, 0, 5, 3, 111121);
        // of 2: 0 1, 2 3, 4 5, then 6 7
        expect(x, 0, 6, -1, -1);
        expect(x, 0, 15, -1, -1);
        Due.holds("it was thought only", was.equals(Due.seen(x)));
        Due.is("name 16", x.lessons(0, 16, 0), -7);
        Due.is("name -1", x.lessons(0, -1, 0), -7);
        Due.is("lessons(2)", x.lessons(0, 3, 2), -7);
        Due.is("lessons(2), known", x.lessons(1, 3, 2), -7);
        Due.is("lessons(-1)", x.lessons(0, 3, -1), -7);
        Due.is("nobody", x.lessons(3, 16, 0), -5);
        Due.is("nobody", x.lessons(-1, 3, 0), -5);
    }

    static void lessonsInOrder() {
        NameThrownBack x = new NameThrownBack();
        // 1 and 2 take one, the others two
        x.fisher(0, Due.bits(3));
        x.fisher(50, Due.bits(5));
        x.fisher(50, Due.bits(5, 6));
        x.fisher(0, Due.bits(3, 4, 5, 9));
        // 2 needs 3, 4, and then 9 of 3; for the first 0 does as well
        expect(x, 2, 9, 3, 3 * 10000 + 33 * 100 + 33);
        expect(x, 2, 4, 2, 3 * 100 + 33);
        expect(x, 2, 3, 1, 3);
        // 1 learns 3 of 0, 4 of 3, 9 of 3
        expect(x, 1, 9, 3, 2 * 10000 + 32 * 100 + 32);
        // by others: 0 takes two, 6 of 2 behind 5
        expect(x, 0, 6, 1, 21);
        x.put(2, 0, Due.bits(6, 7, 8));
        x.put(1, 0, 0);
        x.put(3, 0, Due.bits(6, 7));
        x.put(0, 0, 0);
        // 1 takes one: 6, 7, 8; from 0, when it has learned them, it goes no faster
        expect(x, 1, 7, 2, 2200 + 22);
        expect(x, 0, 8, 2, 2100 + 21);
        NameThrownBack y = new NameThrownBack();
        for (int p = 0; p < 6; p++) {
            y.fisher(0, p == 5 ? 65535 : 0);
        }
        expect(y, 4, 1, 1, 55);
        expect(y, 4, 3, 2, 5555);
        expect(y, 4, 5, 3, 555555);
        expect(y, 4, 6, -1, -1);
        y.put(3, 0, Due.bits(9));
        y.put(2, 0, Due.bits(10, 11));
        expect(y, 4, 11, 1, 25);
        y.put(2, 0, Due.bits(9, 10, 11));
        expect(y, 4, 11, 2, 2525);
        Due.law(y, "lets 0;lucks 0;takes 1 + more;");
        y.put(2, 0, Due.bits(8, 9, 10, 11));
        y.put(1, 0, Due.bits(8));
        // 8 of 1, then 9 and 10 of 2; 9 of 3 would be a later row
        expect(y, 4, 10, 3, 152525);
        y.put(4, 0, Due.bits(8));
        expect(y, 4, 10, 2, 2525);
        expect(y, 0, 0, 1, 51);
        NameThrownBack z = new NameThrownBack();
        z.fisher(50, 0);
        z.fisher(47, 0);
        z.fisher(0, Due.bits(3, 6));
        z.fisher(0, Due.bits(6, 7));
        // 0 takes one: 6 of 3
        expect(z, 0, 6, 1, 31);
        // 7: of 3 by two; no other way is shorter
        expect(z, 0, 7, 2, 3131);
        expect(z, 1, 7, 1, 32);
    }

    static void expect(NameThrownBack x, int p, int name, int few, int number) {
        Due.is("lessons to " + p + " for " + name, x.lessons(p, name, 0), few);
        Due.is("which, to " + p + " for " + name, x.lessons(p, name, 1), number);
    }

    static void when() {
        NameThrownBack x = new NameThrownBack();
        Due.is("the sea is empty", x.when(-1), 0);
        x.shore(1, Due.bits(3, 7, 9));
        Due.is("nobody finds", x.when(-1), -1);
        Due.is("nobody finds 3", x.when(3), -1);
        x.fisher(0, Due.bits(5));
        Due.is("5 is known", x.when(5), 0);
        Due.is("3", x.when(3), 1);
        Due.is("7", x.when(7), 2);
        Due.is("9", x.when(9), 3);
        Due.is("8", x.when(8), -1);
        Due.is("empty", x.when(-1), 3);
        Due.is("it was thought only", x.count(1), 3);
        Due.is("it was thought only", x.count(2), 0);
        x.shore(0, 999);
        Due.is("past 999", x.when(-1), 3);
        x.shore(1, 65535);
        x.put(0, 0, 0);
        Due.is("all sixteen", x.when(-1), 16);
        Due.is("the last one", x.when(15), 16);
        Due.is("when(16)", x.when(16), -2);
        Due.is("when(-2)", x.when(-2), -2);
    }

    static void share() {
        NameThrownBack x = new NameThrownBack();
        x.fisher(0, Due.bits(0, 1, 2, 3));
        Due.is("none is kept", x.share(0, 0), NameThrownBack.NO);
        Due.is("none is kept", x.share(0, 1), NameThrownBack.NO);
        x.put(0, 1, Due.bits(2, 3, 4, 5, 6, 7));
        Due.is("2 of 6 above", x.share(0, 0), 1);
        Due.is("2 of 6 below", x.share(0, 1), 3);
        x.put(0, 1, Due.bits(0, 2, 4));
        Due.is("2 of 3 above", x.share(0, 0), 2);
        Due.is("2 of 3 below", x.share(0, 1), 3);
        x.put(0, 1, Due.bits(5, 6, 7));
        Due.is("0 of 3 above", x.share(0, 0), 0);
        Due.is("0 of 3 below", x.share(0, 1), 1);
        x.put(0, 1, Due.bits(1, 2, 3));
        Due.is("3 of 3 above", x.share(0, 0), 1);
        Due.is("3 of 3 below", x.share(0, 1), 1);
        Due.is("share(2)", x.share(0, 2), NameThrownBack.NO);
        Due.is("share(-1)", x.share(0, -1), NameThrownBack.NO);
        Due.is("nobody", x.share(1, 0), NameThrownBack.NO);
        Due.is("nobody", x.share(-1, 1), NameThrownBack.NO);
    }
}
