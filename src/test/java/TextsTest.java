/** Promises 8 to 10: feed, text, force; and what texts say. */
public final class TextsTest {
    private static final Due DUE = new Due("TextsTest");
    private static final int BAD = PostsFilled.BAD, FULL = PostsFilled.FULL;

    private static void feed() {
        PostsFilled x = new PostsFilled();
        DUE.is("feed 0", x.feed(0, 1), BAD);
        DUE.is("feed 9", x.feed(9, 1), BAD);
        DUE.is("feed -1", x.feed(-1, 1), BAD);
        for (int n = 1; n <= 19; n++) {
            DUE.is("feed 8", x.feed(8, -1L), 8 * n);
        }
        DUE.is("feed 7", x.feed(7, -1L), 159);
        DUE.is("feed beyond", x.feed(2, -1L), FULL);
        DUE.is("feed BAD ahead of FULL", x.feed(9, -1L), BAD);
        DUE.is("refused, the tape stays", x.count(4), 159);
        DUE.is("feed to 160", x.feed(1, -1L), 160);
        DUE.is("feed beyond 160", x.feed(1, -1L), FULL);
        DUE.is("a byte that begins none", x.text(), -100);
        DUE.is("the tape is empty", x.count(4), 0);
    }

    private static void order() {
        PostsFilled x = new PostsFilled();
        x.feed(8, 0x20313b6c6c6577L | 0x7aL << 56);
        DUE.is("lowest byte first", x.text(), -104);
        x.feed(2, 0x6577L);
        x.feed(2, 0xffff6c6cL);
        DUE.is("the lowest bytes alone", x.text(), -104);
    }

    private static void fault(String text, int place) {
        PostsFilled x = new PostsFilled();
        DUE.is("fault of '" + text + "'", Due.text(x, text), -100 - place);
        DUE.is("no text came of '" + text + "'", x.count(3), 1);
        DUE.is("the tape is empty after '" + text + "'", x.count(4), 0);
    }

    private static void good(String text) {
        DUE.is("'" + text + "'", Due.text(new PostsFilled(), text), 1);
    }

    private static void faults() {
        fault("", 0);
        fault("   ", 3);
        fault("well", 4);
        fault("well ", 5);
        fault("cost 1;", 0);
        fault("well 1; pay", 8);
        fault("well 1; cost 1; pay 1", 21);
        fault("well 1; cost 1; pay 1;  x", 24);
        fault("well 1; cost 1; pay 1; ;", 23);
        fault("well 1; cost 1; pay 1; #", 23);
        fault("well 12345; cost 1; pay 1;", 5);
        fault("well 00001; cost 1; pay 1;", 5);
        fault("well 1 2345678;", 7);
        fault("well owns; cost 1; pay 1;", 5);
        fault("well ow; cost 1; pay 1;", 5);
        fault("well ownz; cost 1; pay 1;", 5);
        fault("well aown; cost 1; pay 1;", 5);
        fault("well ownnumber;", 5);
        fault("well Own;", 5);
        fault("well\t1;", 4);
        fault("well 1\r;", 6);
        fault("well well;", 5);
        fault("well 1 + not 1;", 9);
        fault("well 1 < not 1;", 9);
        fault("well 1 < 2 < 3;", 11);
        fault("well 1 = 2 = 3;", 11);
        fault("well 1 and;", 10);
        fault("well or 1;", 5);
        fault("well + 1;", 5);
        fault("well 1 1;", 7);
        fault("well (1;", 7);
        fault("well 1);", 6);
        fault("well ();", 6);
        fault("well 1 * * 2;", 9);
        fault("well - ;", 7);
        fault("well 1 % 2", 7);
    }

    private static void depth() {
        String tail = "; cost 1; pay 1;";
        good("well (((((1)))))" + tail);
        fault("well ((((((1))))))" + tail, 10);
        good("well -----1" + tail);
        fault("well ------1" + tail, 10);
        good("well not not not not not 1" + tail);
        fault("well not not not not not not 1" + tail, 25);
        fault("well not not not not not -1" + tail, 25);
        fault("well not not - - (-1)" + tail, 18);
        good("well not not - - (1)" + tail);
        good("well -----1 + -----1 * -----1" + tail);
        good("well (((((1)))))+(((((1)))))" + tail);
        good("well not not not not not 1 and not not not not not 1" + tail);
        good("well not (((( 1 ))))" + tail);
        fault("well not (((( - 1 ))))" + tail, 14);
        good("well - (((( 1 )))) - 1" + tail);
    }

    private static void full() {
        PostsFilled x = new PostsFilled();
        for (int n = 1; n <= 5; n++) {
            DUE.is("text " + n, Due.text(x, "well 1;cost 1;pay 1;"), n);
        }
        x.feed(3, 0);
        DUE.is("text FULL, ahead of a fault", x.text(), FULL);
        DUE.is("the tape stays", x.count(4), 3);
        DUE.is("texts", x.count(3), 6);
    }

    private static void force() {
        PostsFilled x = new PostsFilled();
        DUE.is("force -1", x.force(-1), BAD);
        DUE.is("force 1", x.force(1), BAD);
        DUE.is("force 0", x.force(0), 0);
        Due.text(x, "well 7;cost 8;pay 9;");
        DUE.is("a text is not yet the rule", x.count(5), 0);
        DUE.is("force", x.force(1), 0);
        DUE.is("force again", x.force(1), 1);
        DUE.is("rule", x.count(5), 1);
        x.post(1, 1);
        x.person(0, 0);
        DUE.is("well", x.told(0, 0, 8), 7);
        DUE.is("cost", x.told(0, 0, 9), 8);
        DUE.is("pay", x.pay(0), 9);
        DUE.is("force back", x.force(0), 1);
        DUE.is("well", x.told(0, 0, 8), 10);
    }

    /** The value of an expression below 100, by what is done well. */
    private static void value(String e, int want) {
        PostsFilled x = new PostsFilled();
        x.post(0, 60);
        x.post(1, 7);
        x.person(0, 40);
        x.teach(0, 1);
        x.years(3);
        DUE.is("text of " + e, Due.text(x, "well " + e + ";cost " + e + ";pay 1;"), 1);
        x.force(1);
        DUE.is(e, x.told(0, 1, 8), Math.max(0, Math.min(99, want)));
        DUE.is("cost " + e, x.told(0, 1, 9), Math.max(1, Math.min(99, want)));
    }

    private static void values() {
        value("own", 0);
        value("number", 4);
        value("years", 3);
        value("must", 1);
        value("value", 7);
        value("taught", 1);
        value("2+3*4", 14);
        value("(2+3)*4", 20);
        value("20-3-4", 13);
        value("20-(3-4)", 21);
        value("-3*-4", 12);
        value("- - 5", 5);
        value("2 - -5", 7);
        value("5 or 0", 1);
        value("0 or 0", 0);
        value("5 and 7", 1);
        value("5 and 0", 0);
        value("0 or 7 and 0 or 0", 0);
        value("1 or 1 and 0", 1);
        value("not 5", 0);
        value("not 0", 1);
        value("not 3 < 2", 1);
        value("not 0 and 0", 0);
        value("3 < 4", 1);
        value("4 < 4", 0);
        value("4 = 4", 1);
        value("4 = 5", 0);
        value("-4 < 3", 1);
        value("1 + 1 = 2 and 7", 1);
        value("(3 < 4) * 9", 9);
        value("8", 8);
        value("0", 0);
        value("100", 100);
        value("- 1", -1);
        value("9999*9999*9999", 9999 * 9999 * 9999);
        value("0 - 9999*9999*9999", -(9999 * 9999 * 9999));
        value("9999*9999*22 < 0", 1);
        value("0099", 99);
    }

    /** All that can wait for its right side does so in all levels at once. */
    private static void deepestWaiting() {
        String level = "0or 1and 0=1-1*(";
        String e = level + level + level + level + level + "0or 1and 3=1+1*2" + ")))))";
        PostsFilled x = new PostsFilled();
        x.post(0, 60);
        x.person(0, 0);
        DUE.is("deepest text", Due.text(x, "well 40+(1=1);cost 1;pay " + e + ";"), 1);
        x.force(1);
        DUE.is("deepest well", x.told(0, 0, 8), 41);
        DUE.is("deepest pay", x.pay(0), 1);
    }

    private static void firstRule() {
        PostsFilled x = new PostsFilled();
        x.post(1, 0);
        x.post(1, 99);
        x.post(1, 20);
        x.person(0, 90);
        DUE.is("own", x.told(0, 0, 8), 10);
        DUE.is("never taught", x.told(0, 1, 8), 0);
        DUE.is("cost, least", x.told(0, 0, 9), 1);
        DUE.is("cost, most", x.told(0, 1, 9), 93);
        DUE.is("cost", x.told(0, 2, 9), 14);
        x.teach(0, 1);
        DUE.is("just taught", x.told(0, 1, 8), 5);
        x.years(2);
        DUE.is("taught two years ago", x.told(0, 1, 8), 3);
        DUE.is("pay", x.pay(0), 20);
        x.person(0, 0);
        DUE.is("cost, more than the bound", x.told(1, 1, 9), 99);
    }

    public static void main(String[] args) {
        feed();
        order();
        faults();
        depth();
        full();
        force();
        values();
        deepestWaiting();
        firstRule();
        DUE.end();
    }
}
