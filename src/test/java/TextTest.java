/** Promise 5: what is a text, where its fault is, what it comes to. */
public final class TextTest {
    public static void main(String[] args) {
        plain();
        faults();
        open();
        behindTheTape();
        values();
        full();
        Due.end();
    }

    static void plain() {
        good("lets thing ; lucks 5 ; takes 2 ;");
        good("lets1;lucks2;takes3;");
        good("\n lets\n\n1 ;\nlucks 2;takes 3; \n");
        good("lets 1 or 2 and not 3 < 4;lucks (1 = 2) * -3;takes 0001;");
        good("lets ((1)) + - - 1;lucks 1<2;takes 1-1-1*2*3+4;");
        NameThrownBack x = new NameThrownBack();
        Due.is("the first one", Due.text(x, "lets 1;lucks 2;takes 3;"), 1);
        Due.is("the tape is empty", x.count(5), 0);
        Due.is("the second one", Due.text(x, "lets 1;lucks 2;takes 3;"), 2);
        Due.is("a fault", Due.text(x, "lets 1;lucks 2;takes 3"), -122);
        Due.is("the tape is empty by a fault, too", x.count(5), 0);
        Due.is("a fault is no text", x.count(3), 3);
    }

    static void faults() {
        fault("", 0);
        fault("   ", 3);
        fault("lets", 4);
        fault("lets 1", 6);
        fault("lets 1  ", 8);
        fault("lets 1;", 7);
        fault("lets 1;lucks 2;takes 3", 22);
        fault("lets 1;lucks 2;takes 3; x", 24);
        fault("lets 1;lucks 2;takes 3;;", 23);
        fault("lets 1;lucks 2;takes 3; lets", 24);
        fault("lucks 1;", 0);
        fault(" Lets 1;", 1);
        fault("letss 1;", 0);
        fault("letsz 1;", 0);
        fault("lets{ 1;", 4);
        fault("lets`1;", 4);
        fault("lets 1:", 6);
        fault("lets /", 5);
        fault("let 1;", 0);
        fault("lets lets;", 5);
        fault("lets 1 2;", 7);
        fault("lets 1 ;takes 2;", 8);
        fault("lets thin;", 5);
        fault("lets things;", 5);
        fault("lets 10000;", 5);
        fault("lets 00000;", 5);
        fault("lets 9999 9999;", 10);
        fault("lets 1a;", 6);
        fault("lets 1 or;", 9);
        fault("lets 1 or or 1;", 10);
        fault("lets 1 < 2 < 3;", 11);
        fault("lets 1 = 2 < 3;", 11);
        fault("lets 1 < not 2;", 9);
        fault("lets 1 + not 2;", 9);
        fault("lets - not 2;", 7);
        fault("lets * 2;", 5);
        fault("lets + 2;", 5);
        fault("lets 1 + + 2;", 9);
        fault("lets (1;", 7);
        fault("lets 1);", 6);
        fault("lets ();", 6);
        fault("lets (1", 7);
        fault("lets 1 > 2;", 7);
        fault("lets 1 / 2;", 7);
        fault("lets 1, 2;", 6);
        fault("lets\t1;", 4);
        fault("lets\r1;", 4);
        fault("lets 1;lucks 2;takes 3;\u0000", 23);
        fault("lets 1;lucks 2;takes 3;\u00ff", 23);
        fault("lets 1;lucks 2;takes @ 3", 21);
        fault("lets 1;lucks;", 12);
        fault("lets notmore;", 5);
        fault("lets thing thing;", 11);
        fault("lets (1)(2);", 8);
        fault("lets 1 not 2;", 7);
    }

    static void open() {
        good("lets (((((1)))));lucks ((((1))));takes 1;");
        fault("lets ((((((1))))));lucks 1;takes 1;", 10);
        good("lets - - - - - 1;lucks 1;takes 1;");
        fault("lets - - - - - - 1;lucks 1;takes 1;", 15);
        good("lets not not not not not 1;lucks 1;takes 1;");
        fault("lets not not not not not not 1;lucks 1;takes 1;", 25);
        fault("lets not not not not not - 1;lucks 1;takes 1;", 25);
        fault("lets not not not not not (1);lucks 1;takes 1;", 25);
        good("lets not (not (-1));lucks 1;takes 1;");
        fault("lets not (not (- -1));lucks 1;takes 1;", 17);
        fault("lets -(-(-(1)));lucks 1;takes 1;", 10);
        good("lets -(-(-1)) * -(-(-1));lucks 1;takes 1;");
        good("lets (((((1))))) + (((((1)))));lucks 1;takes 1;");
        good("lets (((((1 - 1)))));lucks 1;takes 1;");
        fault("lets (((((1 - -1)))));lucks 1;takes 1;", 14);
        fault("lets (((((- 1)))));lucks 1;takes 1;", 10);
        good("lets not not not not not 1 and not not not not not 1;lucks 1;takes 1;");
        good("lets not 1 < ((((1))));lucks 1;takes 1;");
        fault("lets not 1 < (((((1)))));lucks 1;takes 1;", 17);
        good("lets - 1 + (((((1)))));lucks 1;takes 1;");
        good("lets 1 - (((((1)))));lucks 1;takes 1;");
        good("lets (((((1 or 2 and 3 < 4 + 5 * 6)))));lucks 1 or 1 and 1 < 1 + 1 * (1 or 1 and 1 < 1 + 1 * 1);takes 1;");
    }

    /** What was read before is no part of a text, though it was longer. */
    static void behindTheTape() {
        for (char old : new char[] {'s', '9', ' ', '\n', ';'}) {
            for (String text : new String[] {"let", "lets", "lets 1", "lets 9999", "lets 1 ", "lets 1;lucks 1;takes 1"}) {
                NameThrownBack x = new NameThrownBack();
                x.feed(5, old, old, old, old, old);
                for (int i = 0; i < 30; i++) {
                    x.feed(5, old, old, old, old, old);
                }
                x.text();
                Due.is(text + " behind " + (int) old, Due.text(x, text), text.equals("let") ? -100 : -100 - text.length());
                Due.is("whole, behind " + (int) old, Due.text(x, "lets 1;lucks 1;takes 1;"), 1);
            }
        }
    }

    static void values() {
        value("7", 7);
        value("0098", 98);
        value("1 + 2 * 3", 7);
        value("(1 + 2) * 3", 9);
        value("9 - 3 - 2", 4);
        value("2 * 3 * 4", 24);
        value("- 3 * - 4", 12);
        value("- - 3", 3);
        value("1 - - 1", 2);
        value("5 < 6", 1);
        value("6 < 6", 0);
        value("-1 < 0", 1);
        value("6 = 6", 1);
        value("5 = 6", 0);
        value("1 + 1 = 2", 1);
        value("1 + (1 = 2)", 1);
        value("not 0", 1);
        value("not 7", 0);
        value("not not 7", 1);
        value("not 1 < 0", 1);
        value("not 0 and 0", 0);
        value("not (0 and 0)", 1);
        value("7 and 9", 1);
        value("7 and 0", 0);
        value("0 and 7", 0);
        value("0 or 9", 1);
        value("9 or 0", 1);
        value("0 or 0", 0);
        value("1 or 0 and 0", 1);
        value("(1 or 0) and 0", 0);
        value("0 and 0 or 1", 1);
        value("0 or 0 or 3", 1);
        value("3 and 3 and 0", 0);
        value("-1 and -1", 1);
        value("1 < 2 and 2 < 1", 0);
        // 32 bits, wrapping: 2 to the 32nd is 0, 2 to the 31st is below 0
        value("4096 * 1024 * 1024 + 3", 3);
        value("2048 * 1024 * 1024 < 0", 1);
        value("2048 * 1024 * 1024 - 1 < 0", 0);
        value("- (2048 * 1024 * 1024) < 0", 1);
        value("1 or 1 and 1 < 1 + 2 * (0 or 1 and 5 = 2 + 3 * (1 and 1))", 1);
    }

    static void full() {
        NameThrownBack x = new NameThrownBack();
        for (int t = 1; t < 6; t++) {
            Due.is("text " + t, Due.text(x, "lets 1;lucks " + t + ";takes 3;"), t);
        }
        Due.is("full", Due.text(x, "lets 1;lucks 2;takes 3;"), -4);
        Due.is("the tape stays", x.count(5), 23);
        Due.feed(x, "oh");
        Due.is("full ahead of the fault", x.text(), -4);
        Due.is("six texts", x.count(3), 6);
        x.fisher(0, 0);
        for (int t = 1; t < 6; t++) {
            x.force(t);
            Due.is("each is its own", x.asks(1, 0, 0), t);
        }
        x.force(0);
        Due.is("text 0 is still text 0", x.asks(1, 0, 0), 5);
        NameThrownBack y = new NameThrownBack();
        StringBuilder whole = new StringBuilder("lets 1;lucks 2;takes 1");
        while (whole.length() < 157) {
            whole.append("+1");
        }
        Due.is("as long as the tape", Due.text(y, whole + ";"), 1);
    }

    static void good(String text) {
        Due.is(text, Due.text(new NameThrownBack(), text), 1);
    }

    static void fault(String text, int place) {
        Due.is(text, Due.text(new NameThrownBack(), text), -100 - place);
    }

    /** An E comes to the same in each of the three parts. */
    static void value(String e, int v) {
        for (int part = 0; part < 3; part++) {
            NameThrownBack x = new NameThrownBack();
            x.fisher(0, 1);
            String[] parts = {"50", "51", "3"};
            parts[part] = e;
            Due.law(x, "lets " + parts[0] + ";lucks " + parts[1] + ";takes " + parts[2] + ";");
            Due.is(e + " in part " + part, x.asks(part, 0, 3), part == 2 ? Math.max(0, Math.min(16, v)) : v);
            Due.is("the part ahead", x.asks((part + 2) % 3, 0, 3), new int[] {3, 50, 51}[part]);
        }
    }
}
