/** Promises 12 to 15. */
public final class LandingTest {
    public static void main(String[] args) {
        land();
        aheadOfAll();
        landRefuses();
        teach();
        takesOfWhoLearns();
        tide();
        talk();
        Due.end();
    }

    static void land() {
        NameThrownBack x = new NameThrownBack();
        x.fisher(0, Due.bits(2, 5, 9));
        Due.is("land 4", x.land(0, 4), 5);
        Due.is("known", x.told(0, 0), Due.bits(2, 9));
        Due.is("kept", x.told(0, 1), Due.bits(4));
        Due.is("luck", x.told(0, 2), 55);
        Due.is("the sea", x.shore(1, 0), Due.bits(5));
        x.shore(1, Due.bits(9));
        Due.is("no tide goes", x.count(2), 0);
        Due.is("land 5, its name thrown back", x.land(0, 5), 9);
        Due.is("it lay there already", x.count(1), 1);
        Due.is("land 5 again", x.land(0, 5), 2);
        Due.is("none is left", x.land(0, 2), -1);
        Due.is("kept", x.told(0, 1), Due.bits(2, 4, 5));
        Due.is("luck", x.told(0, 2), 70);
        x.put(0, 2, 97);
        x.land(0, 0);
        Due.is("luck is 99 at most", x.told(0, 2), 99);
        Due.law(x, "lets 0;lucks -60;takes 0;");
        x.land(0, 0);
        Due.is("luck falls", x.told(0, 2), 39);
        x.land(0, 0);
        Due.is("luck is 0 at least", x.told(0, 2), 0);
    }

    /** Neither what is let go, nor what is kept, nor luck matters to what one landing is told by. */
    static void aheadOfAll() {
        NameThrownBack x = new NameThrownBack();
        x.fisher(14, Due.bits(3));
        Due.is("the name that goes is the thing's", x.land(0, 3), 3);
        Due.is("it was known yet", x.told(0, 2), 55);
        NameThrownBack y = new NameThrownBack();
        y.fisher(0, Due.bits(0, 1, 2));
        Due.law(y, "lets kept + luck;lucks known * 10 + kept;takes 0;");
        Due.is("lets 0 and 50 of 3", y.land(0, 7), 2);
        Due.is("lucks 30", y.told(0, 2), 80);
        Due.is("lets 1 and 80 of 2", y.land(0, 7), 1);
        Due.is("lucks 21", y.told(0, 2), 99);
    }

    static void landRefuses() {
        NameThrownBack x = new NameThrownBack();
        x.fisher(0, 7);
        String was = Due.seen(x);
        Due.is("nobody", x.land(1, 0), -5);
        Due.is("nobody", x.land(-1, 0), -5);
        Due.is("nobody ahead of no thing", x.land(1, 16), -5);
        Due.is("no thing", x.land(0, 16), -6);
        Due.is("no thing", x.land(0, -1), -6);
        Due.holds("nothing changed", was.equals(Due.seen(x)));
    }

    static void teach() {
        NameThrownBack x = new NameThrownBack();
        x.fisher(0, Due.bits(1, 4, 7, 9, 15));
        x.fisher(0, Due.bits(4, 8));
        Due.is("the least two", x.teach(0, 1), Due.bits(1, 7));
        Due.is("are known, too", x.told(1, 0), Due.bits(1, 4, 7, 8));
        Due.is("and still to who teaches", x.told(0, 0), Due.bits(1, 4, 7, 9, 15));
        Due.is("the next two", x.teach(0, 1), Due.bits(9, 15));
        Due.is("no more", x.teach(0, 1), 0);
        Due.is("back", x.teach(1, 0), Due.bits(8));
        String was = Due.seen(x);
        Due.is("one and the same", x.teach(0, 0), -5);
        Due.is("nobody teaches", x.teach(2, 0), -5);
        Due.is("nobody learns", x.teach(0, 2), -5);
        Due.is("nobody", x.teach(-1, 0), -5);
        Due.is("nobody", x.teach(0, -1), -5);
        Due.holds("nothing changed", was.equals(Due.seen(x)));
        Due.is("no luck by it", x.told(1, 2), 50);
        Due.is("no tide", x.count(2), 0);
    }

    static void takesOfWhoLearns() {
        NameThrownBack x = new NameThrownBack();
        x.fisher(0, 65535);
        x.fisher(29, 0);
        x.fisher(30, 0);
        x.fisher(49, 0);
        x.fisher(50, 0);
        Due.is("a master", x.teach(0, 1), 2047);
        Due.is("an old one, tide 0", x.teach(0, 2), 3);
        Due.is("a girl takes more than there are", x.teach(0, 3), 65535);
        Due.is("a mute", x.teach(0, 4), 1);
        x.tide();
        Due.is("an old one, tide 1", x.teach(0, 2), 0);
        Due.law(x, "lets 0;lucks 0;takes known;");
        x.put(2, 0, 0);
        x.put(0, 0, Due.bits(10));
        Due.is("takes as who learns has", x.teach(1, 0), 1);
    }

    static void tide() {
        NameThrownBack x = new NameThrownBack();
        x.shore(1, Due.bits(3, 7));
        Due.is("nobody is there", x.tide(), -1);
        Due.is("the tide went", x.count(2), 1);
        Due.is("the names lie there", x.count(1), 2);
        x.fisher(0, Due.bits(1, 2, 3));
        x.fisher(0, Due.bits(3, 4));
        x.fisher(0, Due.bits(5, 6));
        Due.is("the least", x.tide(), 3);
        Due.is("to the first of those with fewest, who knew it", x.told(1, 0), Due.bits(3, 4));
        Due.is("in the sea no more", x.count(1), 1);
        Due.is("the next", x.tide(), 7);
        Due.is("to the same", x.told(1, 0), Due.bits(3, 4, 7));
        Due.is("none lies there", x.tide(), -1);
        Due.is("tide", x.count(2), 4);
        x.shore(1, Due.bits(15, 14));
        Due.is("14", x.tide(), 14);
        Due.is("to the last", x.told(2, 0), Due.bits(5, 6, 14));
        Due.is("15", x.tide(), 15);
        Due.is("of like ones the first", x.told(0, 0), Due.bits(1, 2, 3, 15));
        x.shore(1, Due.bits(0));
        x.shore(0, 998);
        Due.is("to 999", x.tide(), 0);
        x.shore(1, Due.bits(0));
        Due.is("not above", x.tide(), -3);
        Due.is("tide stays", x.count(2), 999);
        Due.is("so does the sea", x.count(1), 1);
    }

    static void talk() {
        NameThrownBack x = new NameThrownBack();
        Due.is("bits of nobody", x.talk(1, 0), -2);
        x.fisher(0, Due.bits(0, 1, 2));
        x.fisher(0, Due.bits(1, 2, 3));
        x.fisher(0, Due.bits(2, 3, 4));
        Due.is("all", x.talk(7, 0), Due.bits(2));
        Due.is("any", x.talk(7, 1), Due.bits(0, 1, 2, 3, 4));
        Due.is("none", x.talk(7, 2), 65535 - Due.bits(0, 1, 2, 3, 4));
        Due.is("just one", x.talk(7, 3), Due.bits(0, 4));
        Due.is("all of 1 and 2", x.talk(6, 0), Due.bits(2, 3));
        Due.is("any of 1 and 2", x.talk(6, 1), Due.bits(1, 2, 3, 4));
        Due.is("none of 1 and 2", x.talk(6, 2), 65535 - Due.bits(1, 2, 3, 4));
        Due.is("just one of 1 and 2", x.talk(6, 3), Due.bits(1, 4));
        Due.is("all of nobody", x.talk(0, 0), 65535);
        Due.is("any of nobody", x.talk(0, 1), 0);
        Due.is("none of nobody", x.talk(0, 2), 65535);
        Due.is("just one of nobody", x.talk(0, 3), 0);
        Due.is("some -1", x.talk(-1, 0), -2);
        Due.is("some 8, who is not there", x.talk(8, 0), -2);
        Due.is("talk(4)", x.talk(7, 4), -2);
        Due.is("talk(-1)", x.talk(7, -1), -2);
        x.fisher(0, 1);
        x.fisher(0, 1);
        x.fisher(0, 1 << 15);
        Due.is("all six", x.talk(63, 3), Due.bits(4, 15));
        Due.is("64", x.talk(64, 0), -2);
    }
}
