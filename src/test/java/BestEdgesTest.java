/** The boundary cases of what is best: promises 18 to 22. */
public final class BestEdgesTest {
    private static final int ALL = 65535;

    public static void main(String[] args) {
        Sentences.run(BestEdgesTest.class);
    }

    /** One who keeps some things and has so much luck, by a text. */
    static NameThrownBack keeps(String lucks, int kept, int luck) {
        NameThrownBack x = Due.one(0, 0);
        Due.law(x, "lets 0;lucks " + lucks + ";takes 0;");
        x.put(0, 1, kept);
        x.put(0, 2, luck);
        return x;
    }

    static void which(String what, Untouched.Scene scene, int thing, int luck) {
        Untouched.by(what + ", the thing", scene, x -> x.which(0, 0), thing);
        Untouched.by(what + ", luck then", scene, x -> x.which(0, 1), luck);
    }

    /** Promise 18: "The THING, of those that aren't KEPT": none is kept, all but the first, all but the last. */
    static void whichOfThoseThatArentKept() {
        which("none kept", () -> keeps("5", 0, 50), 0, 55);
        which("all but 0", () -> keeps("5", ALL - 1, 50), 0, 55);
        which("all but 15", () -> keeps("5", ALL >> 1, 50), 15, 55);
        which("the best is kept", () -> keeps("thing", Due.bits(15), 50), 14, 64);
    }

    /** Promise 18: "(what 0; -1: all are), that (1; as it is, then).": all sixteen are kept. */
    static void whichWhereAllAreKept() {
        which("all", () -> keeps("5", ALL, 50), -1, 50);
        which("luck 0", () -> keeps("5", ALL, 0), -1, 0);
        which("luck 99", () -> keeps("-5", ALL, 99), -1, 99);
    }

    /** Promise 18: "by LANDING which now LUCK is most then, of like ones the first": also where it is bounded. */
    static void whichOfLikeOnesTheFirst() {
        which("all alike", () -> keeps("0", 0, 50), 0, 50);
        which("bounded above from 9 on", () -> keeps("thing", 0, 90), 9, 99);
        which("bounded from the first", () -> keeps("thing", 0, 99), 0, 99);
        which("bounded below, all alike", () -> keeps("thing-99", 0, 50), 0, 0);
        which("bounded below, but the last", () -> keeps("thing-99", 0, 85), 15, 1);
        which("the last", () -> keeps("thing", 0, 50), 15, 65);
        which("the first", () -> keeps("-thing", 0, 50), 0, 50);
        which("the one that is told", () -> keeps("thing=7", 0, 50), 7, 51);
        which("two alike", () -> keeps("thing=7 or thing=8", 0, 50), 7, 51);
        which("all are less than now", () -> keeps("-1-thing", 0, 50), 0, 49);
    }

    /** Promise 18: "-5: none such; -7: what.": each too small and too large; -5 is ahead. */
    static void whichRefuses() {
        Untouched.byAll("what", Untouched::busy, -7, x -> x.which(0, -1), x -> x.which(2, 2));
        Untouched.byAll("nobody", Untouched::busy, -5, x -> x.which(-1, 0), x -> x.which(3, 0), x -> x.which(3, 2), x -> x.which(-1, -1));
        Untouched.by("nobody is there", Untouched::fresh, x -> x.which(0, 0), -5);
        Untouched.by("of six", Untouched::full, x -> x.which(6, 0), -5);
    }

    /** Fishers who know so much, each of whom takes so many. */
    static NameThrownBack school(int takes, int... known) {
        NameThrownBack x = new NameThrownBack();
        Due.law(x, "lets 0;lucks 0;takes " + takes + ";");
        for (int names : known) {
            x.fisher(0, names);
        }
        return x;
    }

    static void taught(String what, Untouched.Scene scene, int p, int whom, int many) {
        Untouched.by(what + ", whom", scene, x -> x.taught(p, 0), whom);
        Untouched.by(what + ", how many", scene, x -> x.taught(p, 1), many);
    }

    /** Promise 19: "(what 0; -1: of nobody any), how many (1; 0).": alone, where nobody has a strange name, where one takes none. */
    static void taughtOfNobody() {
        taught("alone", () -> school(2, 1), 0, -1, 0);
        taught("one knows all", () -> school(16, ALL, ALL, 7), 0, -1, 0);
        taught("nobody knows any", () -> school(16, 0, 0, 0), 1, -1, 0);
        taught("one takes none", () -> school(0, 0, ALL, ALL), 0, -1, 0);
    }

    /** Promise 19: "By a LESSON of whom one learns most NAMES now, of like ones the first": alike by what one takes, too. */
    static void taughtOfLikeOnesTheFirst() {
        taught("all alike", () -> school(1, 0, 3, 3), 0, 1, 1);
        taught("alike by what one takes", () -> school(2, 0, 3, ALL), 0, 1, 2);
        taught("one more", () -> school(3, 0, 3, ALL), 0, 2, 3);
        taught("the first is one oneself", () -> school(16, ALL, 7, 7), 1, 0, 13);
        taught("of the last to the first", () -> school(16, 0, 0, 0, 0, 0, ALL), 0, 5, 16);
        taught("to the last", () -> school(16, 1, 0, 1, 0, 1, 0), 5, 0, 1);
        taught("just one name", () -> school(16, 0, 0, Due.bits(15)), 0, 2, 1);
    }

    /** Promise 19: "-5: none such; -7: what.": each too small and too large; -5 is ahead. */
    static void taughtRefuses() {
        Untouched.byAll("what", Untouched::busy, -7, x -> x.taught(0, -1), x -> x.taught(2, 2));
        Untouched.byAll("nobody", Untouched::busy, -5, x -> x.taught(-1, 0), x -> x.taught(3, 0), x -> x.taught(3, 2), x -> x.taught(-1, -1));
        Untouched.by("nobody is there", Untouched::fresh, x -> x.taught(0, 0), -5);
        Untouched.by("of six", Untouched::full, x -> x.taught(6, 0), -5);
    }

    static void lessons(String what, Untouched.Scene scene, int p, int name, int few, int number) {
        Untouched.by(what + ", how few", scene, x -> x.lessons(p, name, 0), few);
        Untouched.by(what + ", by which", scene, x -> x.lessons(p, name, 1), number);
    }

    /** Promise 20: "By how few LESSONS (0 .. 3)": none, one, two, three, and not by three. */
    static void lessons0To3() {
        Untouched.Scene scene = () -> school(1, Due.bits(0), Due.bits(0, 1, 2, 3, 4));
        lessons("known already", scene, 0, 0, 0, 0);
        lessons("by one", scene, 0, 1, 1, 11);
        lessons("by two", scene, 0, 2, 2, 1111);
        lessons("by three", scene, 0, 3, 3, 111111);
        lessons("not by three", scene, 0, 4, -1, -1);
        lessons("known to nobody", scene, 0, 5, -1, -1);
        lessons("who teaches needs none", scene, 1, 4, 0, 0);
    }

    /** Promise 20: "a NAME can be KNOWN to one": the first NAME and the last one. */
    static void lessonsOfTheFirstAndTheLastName() {
        lessons("the first", () -> school(1, 0, 1), 0, 0, 1, 11);
        lessons("the last", () -> school(1, 0, 32768), 0, 15, 1, 11);
        lessons("the last of all", () -> school(16, 0, ALL), 0, 15, 1, 11);
        lessons("the last but by four", () -> school(5, 0, ALL), 0, 15, -1, -1);
        lessons("the last by three", () -> school(6, 0, ALL), 0, 15, 3, 111111);
    }

    /** Promise 20: "-1: not by 3)": where one takes none, where nobody else is there. */
    static void lessonsThatBringNothing() {
        lessons("takes none", () -> school(0, 0, ALL), 0, 0, -1, -1);
        lessons("alone", () -> school(2, 1), 0, 3, -1, -1);
        lessons("alone, known", () -> school(2, 1), 0, 0, 0, 0);
        lessons("an old one, by a tide that is none of his", () -> {
            NameThrownBack x = Due.one(30, 0);
            x.fisher(0, ALL);
            x.shore(0, 1);
            return x;
        }, 0, 0, -1, -1);
    }

    /** Promise 20: "100 times that of those ahead, 10 times who teaches, who learns, and 1; none: 0": the least and the most number. */
    static void numbersOfLessons() {
        lessons("0 teaches 1", () -> school(1, 7, 0), 1, 0, 1, 2);
        lessons("twice", () -> school(1, 7, 0), 1, 1, 2, 202);
        lessons("three times", () -> school(1, 7, 0), 1, 2, 3, 20202);
        lessons("5 teaches 4", () -> school(1, 0, 0, 0, 0, 0, 7), 4, 0, 1, 55);
        lessons("twice", () -> school(1, 0, 0, 0, 0, 0, 7), 4, 1, 2, 5555);
        lessons("three times", () -> school(1, 0, 0, 0, 0, 0, 7), 4, 2, 3, 555555);
        lessons("4 teaches 5", () -> school(1, 0, 0, 0, 0, 7, 0), 5, 0, 1, 46);
        lessons("1 teaches 0", () -> school(1, 0, 7), 0, 0, 1, 11);
    }

    /** Promise 20: "of like ones the first (by the first LESSON, who teaches ahead of who learns, then the next one, ..)". */
    static void likeLessons() {
        lessons("two could teach", () -> school(1, 0, 1, 1), 0, 0, 1, 11);
        lessons("the lower one teaches", () -> school(1, 1, 1, 0), 2, 0, 1, 3);
        // 2 wants name 1, knows none, takes one: name 0 first, of 0 or of 1; then 1 of 1 alone
        lessons("the first lesson of the lower one", () -> school(1, 1, 3, 0), 2, 1, 2, 3 * 100 + 13);
        // 0 wants name 1: name 0 first, of 1 or of 2; then 1 of 2 alone
        lessons("then the next one", () -> school(1, 0, 1, 3), 0, 1, 2, 11 * 100 + 21);
        // 0 wants name 2: 0 first, then 1, then 2; each of the lowest who can
        lessons("each the lowest", () -> school(1, 0, 1, 3, 7), 0, 2, 3, 11 * 10000 + 21 * 100 + 31);
        lessons("each the lowest, the last alike", () -> school(1, 0, 3, 7, 7), 0, 2, 3, 11 * 10000 + 11 * 100 + 21);
    }

    /** Fishers of whom the first three take one (mutes), the others sixteen. */
    static NameThrownBack muteSchool(int... known) {
        NameThrownBack x = new NameThrownBack();
        Due.law(x, "lets 0;lucks 0;takes 16;");
        for (int p = 0; p < known.length; p++) {
            x.fisher(p < 3 ? 50 : 0, known[p]);
        }
        return x;
    }

    /** Promise 20: "of anybody to anybody": a way by another one is found if there is one, and none is made up. */
    static void lessonsByAnotherOne() {
        // name 5 is behind 0 1 2 3, of whomever 0 is taught
        lessons("too many are ahead of it", () -> muteSchool(0, 47, 15), 0, 5, -1, -1);
        lessons("nothing is ahead of it", () -> muteSchool(31, 47, 15), 0, 5, 1, 11);
        // 1 knows 0 1 5: they come one by one; that 2 learns of 1 makes them come no sooner
        lessons("two are ahead of it", () -> muteSchool(960, 35, 0), 0, 5, 3, 111111);
        lessons("two are ahead of it, of another one, too", () -> muteSchool(960, 35, 3), 0, 5, 3, 111111);
        lessons("who takes all needs one", () -> muteSchool(ALL, 0, 0, 0), 3, 15, 1, 4);
    }

    /** Promise 20: "of anybody to anybody": where one takes as many as one knows, another one's names make it less. */
    static void lessonsByMoreNames() {
        NameThrownBack x = new NameThrownBack();
        Due.law(x, "lets 0;lucks 0;takes known;");
        x.fisher(0, Due.bits(8));
        x.fisher(0, Due.bits(9, 10));
        x.fisher(0, Due.bits(0, 1, 2, 3, 4, 5));
        // of 2 alone: 0; 1 2; 3 4 5. As well 9 of 1, then 0 1 of 2, then 2 3 4 5 of 2: 1 is the lower one.
        Due.is("by three", x.lessons(0, 5, 0), 3);
        Due.is("the first of three", x.lessons(0, 5, 1), 11 * 10000 + 21 * 100 + 21);
        Due.is("by two of 2", x.lessons(0, 2, 1), 21 * 100 + 21);
        Due.is("by two, the first of 1", x.lessons(0, 1, 1), 11 * 100 + 21);
    }

    /** Promise 20: "-5: none such; -7: name, what.": each too small and too large; -5 is ahead; also where it is known. */
    static void lessonsRefuse() {
        Untouched.byAll("name, what", Untouched::busy, -7, x -> x.lessons(0, -1, 0), x -> x.lessons(0, 16, 0), x -> x.lessons(0, 0, -1),
            x -> x.lessons(0, 0, 2), x -> x.lessons(0, 2, 2), x -> x.lessons(0, 2, -1), x -> x.lessons(2, 16, 2));
        Untouched.byAll("nobody", Untouched::busy, -5, x -> x.lessons(-1, 0, 0), x -> x.lessons(3, 0, 0), x -> x.lessons(3, 16, 2),
            x -> x.lessons(-1, -1, -1));
        Untouched.by("nobody is there", Untouched::fresh, x -> x.lessons(0, 0, 0), -5);
        Untouched.by("of six", Untouched::full, x -> x.lessons(6, 0, 0), -5);
    }

    /** One who knows none, and the sea. */
    static NameThrownBack sea(int names) {
        NameThrownBack x = Due.one(0, 0);
        x.shore(1, names);
        return x;
    }

    /** Promise 21: "Behind how many TIDES (0 .. 60) NAME what (0 .. 15) is KNOWN to anybody": none, one, sixteen. */
    static void whenANameIsKnown() {
        Untouched.by("the first of all", () -> sea(ALL), x -> x.when(0), 1);
        Untouched.by("the last of all", () -> sea(ALL), x -> x.when(15), 16);
        Untouched.by("the last alone", () -> sea(32768), x -> x.when(15), 1);
        Untouched.by("known, and in the sea", () -> {
            NameThrownBack x = sea(ALL);
            x.put(0, 0, Due.bits(15));
            return x;
        }, x -> x.when(15), 0);
        Untouched.by("known to the sixth", Untouched::full, x -> x.when(15), 0);
    }

    /** Promise 21: "THE SEA is empty (what -1) for the first time": none, one, sixteen. */
    static void whenTheSeaIsEmpty() {
        Untouched.by("now", () -> sea(0), x -> x.when(-1), 0);
        Untouched.by("one", () -> sea(32768), x -> x.when(-1), 1);
        Untouched.by("sixteen", () -> sea(ALL), x -> x.when(-1), 16);
        Untouched.by("without anybody", Untouched::fresh, x -> x.when(-1), 0);
    }

    /** Promise 21: "-1: not by then.": a name that nobody has and that isn't in the sea; nobody who finds. */
    static void whenNotByThen() {
        Untouched.by("in nobody's mind", () -> sea(ALL - 1), x -> x.when(0), -1);
        Untouched.by("in an empty sea", () -> sea(0), x -> x.when(15), -1);
        Untouched.Scene nobody = () -> {
            NameThrownBack x = new NameThrownBack();
            x.shore(1, ALL);
            return x;
        };
        Untouched.by("nobody finds", nobody, x -> x.when(0), -1);
        Untouched.by("nobody empties it", nobody, x -> x.when(-1), -1);
    }

    /** Promise 21: "BAD.": one below -1, one above 15. */
    static void whenRefuses() {
        Untouched.byAll("when", Untouched::busy, -2, x -> x.when(-2), x -> x.when(16), x -> x.when(Integer.MIN_VALUE),
            x -> x.when(Integer.MAX_VALUE));
        Untouched.byAll("without anybody", Untouched::fresh, -2, x -> x.when(-2), x -> x.when(16));
    }

    /** One who keeps and knows some. */
    static NameThrownBack shares(int kept, int known) {
        NameThrownBack x = Due.one(0, known);
        x.put(0, 1, kept);
        return x;
    }

    static void share(int kept, int known, long above, long below) {
        Untouched.by("above, of " + kept + " " + known, () -> shares(kept, known), x -> x.share(0, 0), above);
        Untouched.by("below, of " + kept + " " + known, () -> shares(kept, known), x -> x.share(0, 1), below);
    }

    /** Promise 22: "part 0 above, 1 below the line, in lowest terms.": none of one, none of all, all of all, and between. */
    static void shareInLowestTerms() {
        share(1, 0, 0, 1);
        share(1, 1, 1, 1);
        share(ALL, 0, 0, 1);
        share(ALL, ALL, 1, 1);
        share(ALL, 255, 1, 2);
        share(ALL, ALL - 1, 15, 16);
        share(ALL, 1, 1, 16);
        share(4095, 255, 2, 3);
        share(511, 63, 2, 3);
        share(1023, 15, 2, 5);
        share(32767, 1023, 2, 3);
        share(8191, 127, 7, 13);
        share(Due.bits(14, 15), Due.bits(0, 15), 1, 2);
        share(Due.bits(14, 15), Due.bits(0, 1), 0, 1);
    }

    /** Promise 22: "NO: none such, none is KEPT.": FISHER and part each too small and too large. */
    static void shareRefuses() {
        Untouched.byAll("none such", Untouched::busy, NameThrownBack.NO, x -> x.share(-1, 0), x -> x.share(3, 0), x -> x.share(0, -1),
            x -> x.share(0, 2), x -> x.share(3, 2));
        Untouched.byAll("none is kept", Untouched::busy, NameThrownBack.NO, x -> x.share(2, 0), x -> x.share(2, 1), x -> x.share(2, 2));
        Untouched.by("nobody is there", Untouched::fresh, x -> x.share(0, 0), NameThrownBack.NO);
        Untouched.by("of six", Untouched::full, x -> x.share(6, 0), NameThrownBack.NO);
    }
}
