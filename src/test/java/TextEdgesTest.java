/** The boundary cases of what Terms 1 says of the tape and the texts, and of promise 5. */
public final class TextEdgesTest {
    private static final String REST = ";lucks 1;takes 1;";

    public static void main(String[] args) {
        Sentences.run(TextEdgesTest.class);
    }

    /** An E that can stand there. */
    static void good(String e) {
        Due.is(e, Due.text(new NameThrownBack(), "lets " + e + REST), 1);
    }

    /** An E that has its fault at a place of its own. */
    static void fault(String e, int place) {
        Due.is(e, Due.text(new NameThrownBack(), "lets " + e + REST), -105 - place);
    }

    /** A whole text that has its fault at a place. */
    static void wholeFault(String text, int place) {
        Due.is(text, Due.text(new NameThrownBack(), text), -100 - place);
    }

    /** What an E comes to: as it is asked (-99 .. 99). */
    static int value(String e) {
        NameThrownBack x = Due.one(0, 0);
        Due.is(e, Due.law(x, "lets " + e + REST), 1);
        return x.asks(0, 0, 0);
    }

    /** Terms 1: "A TEXT is read from THE TAPE (160 bytes at most)": each of six texts may be as long. */
    static void textsOf160Bytes() {
        for (int t = 1; t < 6; t++) {
            StringBuilder text = new StringBuilder("lets 1;lucks " + t + ";takes 0");
            while (text.length() < 158) {
                text.append("+1");
            }
            text.append(" ;");
            NameThrownBack x = again(t - 1);
            Due.feed(x, text.toString());
            Due.is("160 bytes", x.count(5), 160);
            Due.is("text " + t, x.text(), t);
            x.force(t);
            Due.is("its second part", x.asks(1, 0, 0), t);
            Due.is("its last part", x.asks(2, 0, 0), 16);
        }
    }

    /** A new object with as many texts: one object is used for 512 calls only. */
    private static NameThrownBack again(int texts) {
        NameThrownBack x = Due.one(0, 0);
        for (int t = 1; t <= texts; t++) {
            Due.text(x, "lets 1;lucks 1;takes 1;");
        }
        return x;
    }

    /** Terms 1: "TOKENS, each as long as can be". */
    static void tokensAreAsLongAsCanBe() {
        good("1or 2");
        good("1or2and 3");
        good("(1)or(2)");
        good("not(1)");
        fault("notmore", 0);
        fault("1 ormore", 2);
        fault("thingmore", 0);
        fault("1 2", 2);
        wholeFault("letsthing;", 0);
        Due.is("a word and a number", Due.text(new NameThrownBack(), "lets1;lucks1;takes1;"), 1);
    }

    /** Terms 1: "WORDS (as many letters a .. z as stand there)": the bytes beside a and z are no letters. */
    static void lettersAreAToZ() {
        wholeFault("lets`", 4);
        wholeFault("lets{", 4);
        wholeFault("letsA", 4);
        wholeFault("letsZ", 4);
        wholeFault("`lets", 0);
        wholeFault("{lets", 0);
        wholeFault("Lets 1;", 0);
        wholeFault("letsa 1;", 0);
        wholeFault("letsz 1;", 0);
        wholeFault("lets z", 5);
        wholeFault("lets a", 5);
    }

    /** Terms 1: "NUMBERS (as many digits as stand there; more than 4 are too long)". */
    static void numbersAreOfFourDigits() {
        good("0");
        good("9999");
        good("0000");
        fault("10000", 0);
        fault("00000", 0);
        fault("1 + 12345 + 1", 4);
        fault("123456789012345678901234567890", 0);
        Due.is("0099", value("0099"), 99);
        Due.is("9999", value("9999 - 9998"), 1);
        Due.is("1000", value("1000 - 999"), 1);
        fault("1/", 1);
        fault("1:", 1);
        fault("/", 0);
        fault(":", 0);
    }

    /** Terms 1: "SIGNS ( ) ; + - * < = ;": no other byte is one, wherever it stands. */
    static void signsAreThese() {
        good("(1)+2-3*4<5");
        good("1=2");
        for (char c = 0; c < 256; c++) {
            boolean begins = (c >= 'a' && c <= 'z') || (c >= '0' && c <= '9') || "();+-*<= \n".indexOf(c) >= 0;
            if (!begins) {
                fault("" + c, 0);
                fault("1" + c + "1", 1);
                wholeFault("" + c, 0);
                wholeFault("lets 1;lucks 1;takes 1;" + c, 23);
            }
        }
    }

    /** Terms 1: "blanks (32, 10) may stand between": the bytes beside them are none. */
    static void blanksAre32And10() {
        good(" 1 ");
        good("\n1\n");
        good(" \n 1 \n ");
        wholeFault(" \n lets", 7);
        Due.is("none at all", Due.text(new NameThrownBack(), "lets(1);lucks-1;takes 1;"), 1);
        Due.is("ahead and behind", Due.text(new NameThrownBack(), "\nlets 1;lucks 1;takes 1;\n "), 1);
        for (int c : new int[] {0, 9, 11, 13, 31, 33, 160}) {
            fault("1" + (char) c + "+1", 1);
        }
        fault("1 0", 2);
        wholeFault("le ts 1;", 0);
    }

    /** Terms 1: "TEXT: lets E ; lucks E ; takes E ;": each in its place, each once, nothing behind. */
    static void threePartsInTheirOrder() {
        wholeFault("lucks 1;lets 1;takes 1;", 0);
        wholeFault("lets 1;takes 1;lucks 1;", 7);
        wholeFault("lets 1;lets 1;", 7);
        wholeFault("lets 1;lucks 1;lucks 1;", 15);
        wholeFault("lets 1;lucks 1;takes 1;lets", 23);
        wholeFault("lets 1;lucks 1;takes 1;;", 23);
        wholeFault("lets 1;;", 7);
        wholeFault("lets;", 4);
        wholeFault("lets 1 lucks", 7);
        wholeFault("lets 1;1", 7);
    }

    /** Terms 1: "TEXT: lets E ; lucks E ; takes E ;": nothing else begins a part, and what begins one is nowhere else. */
    static void whatBeginsAPart() {
        for (String other : "or and not thing more 1 ( - ; letss let bets lfts lett".split(" ")) {
            wholeFault(other + " 1;lucks 1;takes 1;", 0);
        }
        for (String other : "or and not tide 1 ( - ; lets takes luck bucks lucky duck".split(" ")) {
            wholeFault("lets 1;" + other + " 1;takes 1;", 7);
        }
        for (String other : "or and not kept 1 ( - ; lets lucks take bakes takez".split(" ")) {
            wholeFault("lets 1;lucks 1;" + other + " 1;", 15);
        }
        for (String key : "lets lucks takes".split(" ")) {
            fault(key, 0);
            fault("1 " + key + " 1", 2);
            fault("1 or " + key, 5);
            fault("(" + key + ")", 1);
        }
        fault("1 not 1", 2);
    }

    /** Terms 1: "of a WORD that is neither KEY nor NAME": each KEY and NAME with one letter that is another one. */
    static void wordsThatAreAlmostOne() {
        for (String word : "or and not thing known kept tide luck more".split(" ")) {
            for (int i = 0; i < word.length(); i++) {
                String almost = word.substring(0, i) + (word.charAt(i) == 'z' ? 'y' : (char) (word.charAt(i) + 1)) + word.substring(i + 1);
                fault("1 + " + almost, 4);
                fault("1 " + almost + " 1", 2);
                fault(almost + " 1", 0);
            }
        }
    }

    /** Terms 1: "E: AND { or AND }. AND: NOT { and NOT }.": one only, or many. */
    static void orAndAnd() {
        Due.is("one", value("7"), 7);
        Due.is("two", value("0 or 7"), 1);
        Due.is("many", value("0 or 0 or 0 or 0 or 7"), 1);
        Due.is("many none", value("0 or 0 or 0 or 0 or 0"), 0);
        Due.is("two", value("7 and 0"), 0);
        Due.is("many", value("7 and 7 and 7 and 7 and 7"), 1);
        Due.is("many but the last", value("7 and 7 and 7 and 7 and 0"), 0);
        Due.is("and binds more", value("1 or 0 and 0"), 1);
        fault("or 1", 0);
        fault("and 1", 0);
        fault("1 or", 4);
        fault("1 and", 5);
        fault("1 or and 1", 5);
        fault("1 or or 1", 5);
    }

    /** Terms 1: "NOT: not NOT, or SUM, perhaps < or = and a SUM.": none, or just one of these. */
    static void oneComparisonAtMost() {
        Due.is("none", value("5"), 5);
        Due.is("one", value("5 < 6"), 1);
        Due.is("of brackets, too", value("(5 < 6) < 2"), 1);
        Due.is("one on each side", value("5 < 6 and 6 < 7"), 1);
        Due.is("not is of the whole", value("not 5 = 6"), 1);
        Due.is("not not", value("not not 5"), 1);
        fault("1 < 2 < 3", 6);
        fault("1 = 2 = 3", 6);
        fault("1 = 2 < 3", 6);
        fault("1 < not 2", 4);
        fault("< 1", 0);
        fault("1 <", 3);
        fault("1 <= 2", 3);
        fault("1 + not 1", 4);
        fault("- not 1", 2);
    }

    /** Terms 1: "SUM: TERM { + or - TERM }. TERM: ONE { * ONE }.": one only, or many. */
    static void sumsAndTerms() {
        Due.is("from the left", value("9 - 3 - 2"), 4);
        Due.is("both", value("9 - 3 + 2"), 8);
        Due.is("terms first", value("2 + 3 * 4"), 14);
        Due.is("terms first", value("2 * 3 + 4"), 10);
        Due.is("many", value("1+1+1+1+1+1+1+1+1+1"), 10);
        Due.is("many", value("1*2*1*2*1*2*1*2*1*2"), 32);
        fault("1 +", 3);
        fault("1 *", 3);
        fault("* 1", 0);
        fault("+ 1", 0);
        fault("1 + + 1", 4);
        fault("1 * * 1", 4);
        fault("1 + * 1", 4);
    }

    /** Terms 1: "ONE: a NUMBER, a NAME, - ONE, ( E ).": none of them empty. */
    static void ones() {
        Due.is("less", value("-5"), -5);
        Due.is("less less", value("--5"), 5);
        Due.is("less of brackets", value("-(2 + 3)"), -5);
        Due.is("the minus binds more than *", value("-2 * 3 + 7"), 1);
        Due.is("behind *", value("2 * -3"), -6);
        fault("()", 1);
        fault("(", 1);
        fault(")", 0);
        fault("(1", 2);
        fault("1)", 1);
        fault("(1))", 3);
        fault("-", 1);
        fault("(1)(2)", 3);
        fault("1 (2)", 2);
        fault("thing more", 6);
    }

    /** Terms 1: "NAMES: thing known kept tide luck more.": each in each part, one letter less, one more. */
    static void namesInEachPart() {
        for (String name : "thing known kept tide luck more".split(" ")) {
            good(name);
            fault(name.substring(0, name.length() - 1), 0);
            fault(name + "s", 0);
            fault(name.substring(1), 0);
            Due.is(name + " in lucks", Due.text(new NameThrownBack(), "lets 1;lucks " + name + ";takes 1;"), 1);
            Due.is(name + " in takes", Due.text(new NameThrownBack(), "lets 1;lucks 1;takes " + name + ";"), 1);
            wholeFault(name, 0);
        }
        for (String key : "lets lucks takes or and not".split(" ")) {
            fault("1 + " + key, 4);
        }
    }

    /** Terms 1: "An E is an int (32 bits, wrapping)". */
    static void anEWraps() {
        // 2048 * 1024 * 1024 is 2 to the 31st: the least int
        String least = "2048*1024*1024";
        Due.is("the least is below 0", value(least + " < 0"), 1);
        Due.is("one less is the most", value("0 < " + least + " - 1"), 1);
        Due.is("the most and 1 is the least", value(least + " - 1 + 1 = " + least), 1);
        Due.is("less the least is the least", value("-(" + least + ") = " + least), 1);
        Due.is("twice the least is 0", value(least + " * 2"), 0);
        Due.is("and 5", value(least + " * 2 + 5"), 5);
        Due.is("the least and the least", value(least + " + " + least), 0);
        Due.is("the most times the most is 1", value("(" + least + "-1)*(" + least + "-1)"), 1);
        Due.is("the bound, of what it wrapped to", value(least + " + 7"), -99);
        Due.is("the bound, of what it wrapped to", value(least + " - 7"), 99);
    }

    /** Terms 1: "of or, and, not, <, = 1 or 0 (what is not 0 is true)". */
    static void whatIsNot0IsTrue() {
        Due.is("-1 or 0", value("-1 or 0"), 1);
        Due.is("0 or 0", value("0 or 0"), 0);
        Due.is("-1 and 9", value("-1 and 9"), 1);
        Due.is("9 and 0", value("9 and 0"), 0);
        Due.is("0 and 9", value("0 and 9"), 0);
        Due.is("2 and 4", value("2 and 4"), 1);
        Due.is("not -1", value("not -1"), 0);
        Due.is("not 2", value("not 2"), 0);
        Due.is("not 0", value("not 0"), 1);
        Due.is("1 < 1", value("1 < 1"), 0);
        Due.is("0 < 1", value("0 < 1"), 1);
        Due.is("1 < 0", value("1 < 0"), 0);
        Due.is("1 = 1", value("1 = 1"), 1);
        Due.is("1 = 2", value("1 = 2"), 0);
        Due.is("2 = 1", value("2 = 1"), 0);
        Due.is("alone it is what it is", value("-7"), -7);
        Due.is("in brackets, too", value("(-7)"), -7);
    }

    /** Terms 1: "FAULT: the place of the first byte of the first TOKEN that can't stand there". */
    static void theFirstFault() {
        wholeFault("@", 0);
        wholeFault(" @", 1);
        wholeFault("lets 1 2 @ 12345", 7);
        wholeFault("lets 12345 @", 5);
        wholeFault("lets 1;lucks 2;takes 3;\n @", 25);
        wholeFault("lets 1 ) lucks", 7);
        wholeFault("lets lucks", 5);
    }

    /** Terms 1: "(the text's size, if it ends too early)". */
    static void itEndsTooEarly() {
        String whole = "lets 1;lucks (2 or 3);takes not 4;";
        for (int size = 0; size < whole.length(); size++) {
            String early = whole.substring(0, size);
            char last = size == 0 ? ' ' : early.charAt(size - 1);
            boolean cutWord = last >= 'a' && last <= 'z' && whole.charAt(size) >= 'a' && whole.charAt(size) <= 'z';
            int place = size;
            while (cutWord && place > 0 && early.charAt(place - 1) >= 'a' && early.charAt(place - 1) <= 'z') {
                place--;
            }
            wholeFault(early, place);
        }
        wholeFault("", 0);
        wholeFault(" ", 1);
        wholeFault("\n\n", 2);
        wholeFault("lets 1;lucks 2;takes 3", 22);
        wholeFault("lets 1;lucks 2;takes 3  ", 24);
    }

    /** Terms 1: "(the text's size, if it ends too early)": what stood there before on a longer tape doesn't count. */
    static void whatStoodThereBefore() {
        for (String old : new String[] {"s", "9", " ", "\n", ";", ")"}) {
            for (String text : new String[] {"lets", "lets 1", "lets 99", "lets 1 ", "lets 1;lucks 1;takes 1", "lets (1"}) {
                NameThrownBack x = new NameThrownBack();
                while (x.count(5) < 160) {
                    Due.feed(x, old);
                }
                x.text();
                Due.is(text + " behind many " + old, Due.text(x, text), -100 - text.length());
                Due.is("a whole one", Due.text(x, "lets 1;lucks 1;takes 1;"), 1);
            }
        }
    }

    /** Terms 1: "also of a byte that begins none, of a WORD that is neither KEY nor NAME, a NUMBER that is too long": at the byte, the first letter, the first digit. */
    static void whatIsNoToken() {
        fault("1 + @", 4);
        fault("1 + lot", 4);
        fault("1 + things", 4);
        fault("1 + thin", 4);
        fault("1 + 99999", 4);
        fault("(@)", 1);
        fault("not @", 4);
        fault("- @", 2);
    }

    /** Terms 1: "a ( , a not, a - ahead of a ONE while 5 of these are open": five may be, a sixth not. */
    static void fiveMayBeOpen() {
        good("(((((1)))))");
        fault("((((((1))))))", 5);
        good("-----1");
        fault("------1", 5);
        good("not not not not not 1");
        fault("not not not not not not 1", 20);
        good("not (not (-1))");
        fault("not (not (--1))", 11);
        fault("not (not (-(1)))", 11);
        fault("not (not (-1)) and (((((-1)))))", 24);
        good("not(-(-1))");
        fault("not(-(-(1)))", 7);
        fault("(((((not 1)))))", 5);
        fault("(((((-1)))))", 5);
        fault("-----(1)", 5);
        fault("not not not not not -1", 20);
        fault("not not not not not (1)", 20);
    }

    /** Terms 1: "a - ahead of a ONE": a - between two is not open. */
    static void theMinusBetweenIsNotOpen() {
        good("(((((1 - 1)))))");
        good("(((((1 - 1 - 1)))))");
        fault("(((((1 - -1)))))", 9);
        good("1 - (((((1)))))");
        good("1 - -----1");
        fault("1 - ------1", 9);
    }

    /** Terms 1: "(a ( till its ) , not and - till what they belong to ends)". */
    static void howLongTheyAreOpen() {
        good("(((((1))))) + (((((1)))))");
        good("(((((1))))) or -----1 or not not not not not 1");
        good("-1 + (((((1)))))");
        good("-1 * (((((1)))))");
        good("-(1) * (((((1)))))");
        good("not 1 and (((((1)))))");
        good("not 1 or (((((1)))))");
        good("not 1 < ((((1))))");
        fault("not 1 < (((((1)))))", 12);
        good("not 1 + ((((1))))");
        fault("not 1 + (((((1)))))", 12);
        fault("not 1 * (((((1)))))", 12);
        good("(not 1) + (((((1)))))");
        good("((1) + (1) + (1) + (1) + ((((1)))))");
        fault("((1) + (((((1))))))", 11);
        Due.is("each part begins anew", Due.text(new NameThrownBack(), "lets(((((1)))));lucks(((((1)))));takes(((((1)))));"), 1);
    }

    /** Terms 1: "TEXTS are numbered from 0 on, 6 at most". */
    static void sixTextsAtMost() {
        NameThrownBack x = Due.one(0, 0);
        Due.is("one at first", x.count(3), 1);
        for (int t = 1; t < 6; t++) {
            Due.is("no such text yet", x.force(t), -2);
            Due.is("text " + t, Due.text(x, "lets 0;lucks " + t + ";takes 0;"), t);
        }
        Due.is("six", x.count(3), 6);
        Due.is("a seventh", Due.text(x, "lets 0;lucks 6;takes 0;"), -4);
        for (int t = 5; t > 0; t--) {
            x.force(t);
            Due.is("each is as it was read", x.asks(1, 0, 0), t);
        }
    }

    /** Terms 1: "TEXT 0, at first, and THE LAW: lets thing ; lucks 5 ; takes 2 ;". */
    static void text0() {
        NameThrownBack x = Due.one(0, 0);
        Due.is("is the law", x.count(4), 0);
        for (int thing = 0; thing < 16; thing++) {
            Due.is("lets " + thing, x.asks(0, 0, thing), thing);
            Due.is("lucks 5", x.asks(1, 0, thing), 5);
            Due.is("takes 2", x.asks(2, 0, thing), 2);
        }
        Due.is("read it is a text, too", Due.text(x, "lets thing ; lucks 5 ; takes 2 ;"), 1);
    }

    /** Promise 5: "THE TAPE, which is empty then (by a FAULT, too)". */
    static void theTapeIsEmptyThen() {
        NameThrownBack x = new NameThrownBack();
        Due.text(x, "lets 1;lucks 2;takes 3;");
        Due.is("by a text", x.count(5), 0);
        Due.text(x, "lets 1;lucks 2;takes @");
        Due.is("by a fault", x.count(5), 0);
        Due.is("what was on it is not read again", x.text(), -100);
        Due.is("it has room for 160", filled(x), 160);
        Due.is("and for no more", x.feed(1, 32, 0, 0, 0, 0), -4);
    }

    private static int filled(NameThrownBack x) {
        int size = 0;
        for (int i = 0; i < 32; i++) {
            size = x.feed(5, 'a', 32, 'a', 32, 'a');
        }
        return size;
    }

    /** Promise 5: "-100 less the place of its FAULT": the least and the most place there can be. */
    static void placesOfFaults() {
        NameThrownBack x = new NameThrownBack();
        Due.is("an empty tape", x.text(), -100);
        Due.is("the first byte", Due.text(x, "x"), -100);
        filled(x);
        Due.is("the first of 160", x.text(), -100);
        for (int i = 0; i < 32; i++) {
            x.feed(5, 32, 10, 32, 10, 32);
        }
        Due.is("160 blanks", x.text(), -260);
        for (int i = 0; i < 32; i++) {
            x.feed(5, 32, 10, 32, 10, i == 31 ? '@' : 32);
        }
        Due.is("the last of 160", x.text(), -259);
    }

    /** Promise 5: "FULL (ahead of the FAULT; then THE TAPE stays).": the text, the fault, the empty tape. */
    static void fullAheadOfTheFault() {
        Untouched.by("a tape that is no text", Untouched::full, x -> x.text(), -4);
        Untouched.by("a tape that is a text", () -> fullWith("lets 1;lucks 2;takes 3;"), x -> x.text(), -4);
        Untouched.by("an empty tape", () -> fullWith(""), x -> x.text(), -4);
        NameThrownBack x = fullWith("ab");
        Due.is("full", x.text(), -4);
        Due.is("it stays, and goes on", x.feed(1, 'c', 0, 0, 0, 0), 3);
    }

    private static NameThrownBack fullWith(String tape) {
        NameThrownBack x = again(5);
        Due.feed(x, tape);
        return x;
    }

    /** Promise 5: "is a TEXT: its number": a shorter one has nothing of the longer one ahead of it. */
    static void aShorterTextBehindALongerOne() {
        NameThrownBack x = Due.one(0, 0);
        Due.is("longer", Due.text(x, "lets 1;lucks 1;takes not -9 or -(9);"), 1);
        for (int t = 2; t < 6; t++) {
            Due.is("shorter", Due.text(x, t % 2 == 0 ? "lets 1;lucks 1;takes 5;" : "lets 1;lucks 1;takes - - 5;"), t);
            x.force(t);
            Due.is("lets", x.asks(0, 0, 0), 1);
            Due.is("lucks", x.asks(1, 0, 0), 1);
            Due.is("takes", x.asks(2, 0, 0), 5);
        }
    }

    /** Promise 5: "is a TEXT: its number": a FAULT is no text, and the next one has the number that it would have had. */
    static void aFaultIsNoText() {
        NameThrownBack x = new NameThrownBack();
        Due.is("a fault", Due.text(x, "lets 9;lucks 9;takes 9"), -122);
        Due.is("one text", x.count(3), 1);
        Due.is("no such text", x.force(1), -2);
        Due.is("the law", x.count(4), 0);
        Due.is("the next", Due.text(x, "lets 1;lucks 2;takes 3;"), 1);
        x.fisher(0, 0);
        x.force(1);
        Due.is("lets", x.asks(0, 0, 0), 1);
        Due.is("lucks", x.asks(1, 0, 0), 2);
        Due.is("takes", x.asks(2, 0, 0), 3);
    }
}
