/** The boundary cases of promises 8 to 10, and of what "Terms" says of texts. */
public final class TextEdgesTest {
    private static final Edge E = new Edge("TextEdgesTest");
    private static final int BAD = PostsFilled.BAD, FULL = PostsFilled.FULL;
    private static final int FAR = Integer.MAX_VALUE, DEEP = Integer.MIN_VALUE;
    private static final String TAIL = ";cost 1;pay 1;";

    // ---- 8: feed

    private static void feeds1To8Bytes() {
        for (int n : new int[] {0, -1, 9, FAR, DEEP}) {
            E.leavesAll("8: n " + n, Edge::busy, x -> x.feed(n, 0x31L), BAD);
        }
        for (int k = 1; k <= 8; k++) {
            int n = k;
            E.answers("8: n " + n, Edge::empty, x -> x.feed(n, 0x31L), n);
            E.answers("8: n " + n + " behind what the tape has", Edge::busy, x -> x.feed(n, 0x31L), 7 + n);
        }
    }

    /** The lowest comes first: the signs of a text, as far as it has been fed, are in their places. */
    private static void lowestFirst() {
        for (int n = 1; n <= 8; n++) {
            PostsFilled x = new PostsFilled();
            x.feed(n, 0x2020202020202020L);
            x.feed(8, 0x3b316c6c65772020L);
            E.is("8: '  well1;' behind " + n + " blanks", x.text(), -100 - n - 8);
        }
        PostsFilled y = new PostsFilled();
        for (int i = 0; i < 8; i++) {
            y.feed(1, 0x6666666666666600L | "well 77;".charAt(i));
        }
        y.feed(8, 0x203b312074736f63L);
        E.is("8: the bytes above the n lowest don't come", y.feed(6, 0xffff3b3120796170L), 22);
        E.is("8: what was fed is a text", y.text(), 1);
        y.post(1, 1);
        y.person(0, 0);
        y.force(1);
        E.is("8: and it is as it was fed", y.told(0, 0, 8), 77);
    }

    private static void highestByteIsFed() {
        PostsFilled x = new PostsFilled();
        Due.feed(x, "well 1;");
        x.feed(8, 0xff20202020202020L);
        E.is("8: the eighth byte, whose sign bit is set, is one that begins none", x.text(), -114);
    }

    private static void fed(PostsFilled x, int bytes) {
        Edge.busy(x);
        for (int n = x.count(4); n < bytes; n++) {
            x.feed(1, 0x20L);
        }
    }

    private static void tapeHas160AtMost() {
        E.answers("8: 158 and 1", x -> fed(x, 158), x -> x.feed(1, 0), 159);
        E.answers("8: 158 and 2", x -> fed(x, 158), x -> x.feed(2, 0), 160);
        E.leavesAll("8: 158 and 3", x -> fed(x, 158), x -> x.feed(3, 0), FULL);
        E.answers("8: 152 and 8", x -> fed(x, 152), x -> x.feed(8, 0), 160);
        E.leavesAll("8: 153 and 8", x -> fed(x, 153), x -> x.feed(8, 0), FULL);
        E.answers("8: 159 and 1", x -> fed(x, 159), x -> x.feed(1, 0), 160);
        E.leavesAll("8: 160 and 1", x -> fed(x, 160), x -> x.feed(1, 0), FULL);
        E.leavesAll("8: BAD ahead of FULL, 9", x -> fed(x, 160), x -> x.feed(9, 0), BAD);
        E.leavesAll("8: BAD ahead of FULL, 0", x -> fed(x, 160), x -> x.feed(0, 0), BAD);
        E.answers("8: FULL with all texts there", Edge::full, x -> x.feed(1, 0), FULL);
    }

    /** A text that takes the whole tape, and its first fault just behind its last byte. */
    private static void textOf160() {
        StringBuilder t = new StringBuilder("well 1").append(TAIL);
        while (t.length() < 160) {
            t.insert(5, ' ');
        }
        E.is("9: a text of 160 bytes", Due.text(new PostsFilled(), t.toString()), 1);
        E.is("9: its first 159", Due.text(new PostsFilled(), t.substring(0, 159)), -259);
        t.setCharAt(159, '1');
        E.is("9: 160 bytes that end too early", Due.text(new PostsFilled(), t.toString()), -260);
        t.setCharAt(159, '#');
        E.is("9: a fault at the last byte", Due.text(new PostsFilled(), t.toString()), -259);
    }

    // ---- 9: text, TOKENS, FAULT

    private static void good(String text) {
        PostsFilled x = new PostsFilled();
        E.is("9: '" + text + "'", Due.text(x, text), 1);
        E.is("9: the tape is empty then", x.count(4), 0);
        E.is("9: there is a text more", x.count(3), 2);
        E.is("9: the rule stays", x.count(5), 0);
    }

    private static void fault(String text, int place) {
        PostsFilled x = new PostsFilled();
        E.is("9: fault of '" + text + "'", Due.text(x, text), -100 - place);
        E.is("9: no text came of '" + text + "'", x.count(3), 1);
        E.is("9: the tape is empty after '" + text + "'", x.count(4), 0);
        E.is("9: its number is still free", Due.text(x, "well 1" + TAIL), 1);
    }

    /** Each byte where a sum may go on: only + - * < = ; and blanks may stand there, digits go on with 1. */
    private static void everyByteBehindANumber() {
        for (int c = 0; c < 256; c++) {
            String text = "well 1" + (char) c + "1" + TAIL;
            boolean digit = c >= '0' && c <= '9';
            boolean sign = "+-*<=".indexOf(c) >= 0;
            if (digit || sign) {
                good(text);
            } else if (c == ' ' || c == '\n' || c == ';') {
                fault(text, 7);
            } else {
                fault(text, 6);
            }
        }
    }

    /** Each byte where a ONE is to begin. */
    private static void everyByteAheadOfANumber() {
        for (int c = 0; c < 256; c++) {
            String text = "well " + (char) c + " 1" + TAIL;
            if (c == ' ' || c == '\n' || c == '-') {
                good(text);
            } else if (c >= '0' && c <= '9') {
                fault(text, 7);
            } else if (c == '(') {
                fault(text, 8);
            } else {
                fault(text, 5);
            }
        }
    }

    private static void blanksMayStandBetween() {
        good("well1;cost1;pay1;");
        good(" \n well\n1\n;\ncost\n1 ; pay 1 ;\n \n");
        good("well(1);cost-1;pay(own);");
        fault("we ll 1" + TAIL, 0);
        fault("well 1 1" + TAIL, 7);
        fault("well o wn" + TAIL, 5);
        fault("\n\n \n", 4);
        fault(" ", 1);
        fault("", 0);
    }

    private static void tokensAsLongAsCanBe() {
        fault("wellown" + TAIL, 0);
        fault("well ownor 1" + TAIL, 5);
        good("well own or 1" + TAIL);
        good("well 1or 1" + TAIL);
        fault("well 1or1a" + TAIL, 9);
        good("well 1or1" + TAIL);
        good("well not(1)" + TAIL);
        fault("well notown" + TAIL, 5);
        fault("well 1own" + TAIL, 6);
        fault("well own1" + TAIL, 8);
    }

    private static void numbersOf4DigitsAtMost() {
        good("well 999" + TAIL);
        good("well 9999" + TAIL);
        fault("well 10000" + TAIL, 5);
        good("well 0000" + TAIL);
        fault("well 00000" + TAIL, 5);
        fault("well 1 + 99999999999999999999" + TAIL, 9);
        fault("well 1 12345" + TAIL, 7);
    }

    private static void wordsAreKeysOrNames() {
        for (String name : new String[] {"own", "number", "years", "must", "value", "taught"}) {
            good("well " + name + TAIL);
            fault("well " + name + "s" + TAIL, 5);
            fault("well " + name.substring(0, name.length() - 1) + TAIL, 5);
            fault("well " + name.substring(1) + TAIL, 5);
            fault(name + " 1" + TAIL, 0);
            fault("well 1 " + name + TAIL, 7);
            fault("well " + name.toUpperCase() + TAIL, 5);
        }
        for (String key : new String[] {"well", "cost", "pay", "or", "and"}) {
            fault("well " + key + TAIL, 5);
            fault("well 1 + " + key + TAIL, 9);
        }
        fault("well not" + TAIL, 8);
        fault("well ownz" + TAIL, 5);
        fault("well owna" + TAIL, 5);
        fault("well zown" + TAIL, 5);
        fault("well own{" + TAIL, 8);
        fault("well own`" + TAIL, 8);
        fault("well a" + TAIL, 5);
        fault("well z" + TAIL, 5);
        fault("w", 0);
    }

    private static void partsInTheirOrder() {
        fault("cost 1;well 1;pay 1;", 0);
        fault("well 1;pay 1;cost 1;", 7);
        fault("well 1;well 1;pay 1;", 7);
        fault("well 1;cost 1;cost 1;", 14);
        fault("well 1 cost 1;pay 1;", 7);
        fault("well ;cost 1;pay 1;", 5);
        fault("well 1;cost ;pay 1;", 12);
        fault("well 1;cost 1;pay ;", 18);
        fault("well 1;;cost 1;pay 1;", 7);
        fault("well 1;cost 1;pay 1;;", 20);
        fault("well 1;cost 1;pay 1;well", 20);
        fault("well 1;cost 1;pay 1; 1", 21);
    }

    /** Ends too early behind each of its bytes: the place is the text's size. */
    private static void endsTooEarly() {
        String whole = "well ( not 1 < - own + 2 * 3 ) and 4 or 5 ; cost 6 = 7 ; pay 8 ;";
        good(whole);
        for (int size = 0; size < whole.length(); size++) {
            boolean inWord = size > 0 && whole.charAt(size) != ' ' && whole.charAt(size - 1) >= 'a';
            if (!inWord) {
                fault(whole.substring(0, size), size);
            }
        }
        fault("well 1;cost 1;pay 1", 19);
        fault("well 1;cost 1;pay 1 ", 20);
        fault("well 1;cost 1;pay 1 \n", 21);
    }

    private static void wherePartsOfAnECanStand() {
        good("well 1 or 1 or 1" + TAIL);
        good("well 1 and 1 and 1" + TAIL);
        good("well not not 1" + TAIL);
        good("well 1 and not 1 or not 1" + TAIL);
        good("well 1 < 2 and 1 = 2" + TAIL);
        good("well (1 < 2) < 3" + TAIL);
        good("well (1 or 1) + (not 1)" + TAIL);
        good("well -(-1) * -1 - -1" + TAIL);
        fault("well 1 < 2 < 3" + TAIL, 11);
        fault("well 1 < 2 = 3" + TAIL, 11);
        fault("well 1 = not 2" + TAIL, 9);
        fault("well 1 * not 2" + TAIL, 9);
        fault("well - not 2" + TAIL, 7);
        fault("well 1 - not 2" + TAIL, 9);
        fault("well not" + TAIL, 8);
        fault("well 1 not 1" + TAIL, 7);
        fault("well 1 or or 1" + TAIL, 10);
        fault("well 1 and or 1" + TAIL, 11);
        fault("well 1 + + 1" + TAIL, 9);
        fault("well 1 + * 1" + TAIL, 9);
        fault("well * 1" + TAIL, 5);
        fault("well < 1" + TAIL, 5);
        fault("well ()" + TAIL, 6);
        fault("well (1" + TAIL, 7);
        fault("well 1)" + TAIL, 6);
        fault("well (1))" + TAIL, 8);
        fault("well (1;)" + TAIL, 7);
        fault("well (1)(1)" + TAIL, 8);
        fault("well 2(1)" + TAIL, 6);
    }

    private static void theFirstFaultIsTold() {
        fault("well 1 1 # 12345 wrong", 7);
        fault("well # 1 1", 5);
        fault("well 12345 #", 5);
        fault("well 1; cost ((((((1)))))) #", 18);
        fault("wrong 12345", 0);
        fault("# well", 0);
    }

    private static String times(String s, int n) {
        return s.repeat(n);
    }

    private static void fiveOpen() {
        for (int n = 4; n <= 7; n++) {
            String brackets = "well " + times("(", n) + "1" + times(")", n) + TAIL;
            String minus = "well " + times("-", n) + "1" + TAIL;
            String nots = "well " + times("not ", n) + "1" + TAIL;
            if (n <= 5) {
                good(brackets);
                good(minus);
                good(nots);
            } else {
                fault(brackets, 10);
                fault(minus, 10);
                fault(nots, 25);
            }
        }
    }

    private static void fiveOpenOfAllTogether() {
        good("well not(-(-1))" + TAIL);
        good("well not not(-(1))" + TAIL);
        fault("well not not(-(-(1)))" + TAIL, 15);
        fault("well not(-(-(-1)))" + TAIL, 12);
        fault("well ((((( not 1 )))))" + TAIL, 11);
        fault("well (((((-1)))))" + TAIL, 10);
        fault("well -----(1)" + TAIL, 10);
        fault("well not not not not not(1)" + TAIL, 24);
    }

    private static void openTillWhatTheyBelongToEnds() {
        good("well (((((1))))) * (((((1)))))" + TAIL);
        good("well -----1 * -----1 - -----1" + TAIL);
        good("well ((((-1 + -1))))" + TAIL);
        good("well ((((-1) + (-1))))" + TAIL);
        fault("well ((((-1 + (-1)))))" + TAIL, 15);
        good("well not not not not not 1 or not not not not not 1" + TAIL);
        good("well not not not not not 1 and not not not not not 1" + TAIL);
        good("well not not not not 1 < -1" + TAIL);
        fault("well not not not not not 1 < -1" + TAIL, 29);
        fault("well not not not not not 1 + (1)" + TAIL, 29);
        good("well not not not not not 1 and (((((1)))))" + TAIL);
        fault("well (not not not not 1 = 1 and -----1)" + TAIL, 36);
        good("well (not not not not 1 = 1 and ----1)" + TAIL);
        good("well (((((1))))) ; cost (((((1))))) ; pay (((((1))))) ;");
        good("well 1 - 1 - 1 - 1 - 1 - 1 - 1 - 1" + TAIL);
        good("well (((((1 - 1)))))" + TAIL);
    }

    private static void aFaultTakesTheTape() {
        PostsFilled x = new PostsFilled();
        Due.feed(x, "well");
        E.is("9: ends too early", x.text(), -104);
        E.is("9: the tape, which is empty then", x.count(4), 0);
        E.is("9: an empty one ends too early at 0", x.text(), -100);
        E.is("9: the next text begins at 0", Due.text(x, "well 1;#"), -107);
        PostsFilled y = Edge.made(Edge::busy);
        E.is("9: a fault", y.text(), -107);
        E.is("9: leaves the texts", y.count(3), 2);
        E.is("9: leaves the rule", y.count(5), 1);
        E.is("9: leaves what the rule says", y.told(0, 0, 8), 7);
    }

    /** A text that isn't whole is not seen by what the others say. */
    private static void aFaultIsNoPartOfTheNext() {
        PostsFilled x = new PostsFilled();
        x.post(1, 1);
        x.person(0, 0);
        Due.text(x, "well 77; cost 88; pay 99; 1");
        E.is("9: the next text", Due.text(x, "well 1; cost 2; pay 3;"), 1);
        x.force(1);
        E.is("9: its well", x.told(0, 0, 8), 1);
        E.is("9: its cost", x.told(0, 0, 9), 2);
        E.is("9: its pay", x.pay(0), 3);
    }

    private static void sixTextsAtMost() {
        PostsFilled x = new PostsFilled();
        for (int n = 1; n <= 5; n++) {
            E.is("9: text " + n, Due.text(x, "well " + n + TAIL), n);
            E.is("9: texts", x.count(3), n + 1);
        }
        Due.feed(x, "well 6" + TAIL);
        E.is("9: 6 at most, TEXT 0 with them", x.text(), FULL);
        E.is("9: the tape stays", x.count(4), 20);
        E.is("9: the tape goes on behind it", x.feed(1, 0x20L), 21);
        x.post(1, 1);
        x.person(0, 0);
        for (int n = 1; n <= 5; n++) {
            x.force(n);
            E.is("9: each text is its own", x.told(0, 0, 8), n);
        }
        E.leavesAll("9: FULL", Edge::full, y -> y.text(), FULL);
        E.leavesAll("9: FULL with an empty tape", y -> {
            for (int n = 1; n <= 5; n++) {
                Due.text(y, "well 1" + TAIL);
            }
        }, y -> y.text(), FULL);
    }

    // ---- 10: force

    private static void forceRefuses() {
        for (int no : new int[] {-1, -2, 2, 6, FAR, DEEP}) {
            E.leavesAll("10: text " + no, Edge::busy, x -> x.force(no), BAD);
        }
        E.leavesAll("10: text 1 of a new object", Edge::empty, x -> x.force(1), BAD);
        E.answers("10: text 0", Edge::busy, x -> x.force(0), 1);
        E.leavesAll("10: the rule that is", Edge::busy, x -> x.force(1), 1);
        E.answers("10: text 5, of six", Edge::full, x -> x.force(5), 0);
        E.leavesAll("10: text 6, of six", Edge::full, x -> x.force(6), BAD);
        E.leavesAll("10: to and fro", Edge::busy, x -> 10 * x.force(0) + x.force(1), 10);
        E.leavesAll("10: a text that had a fault is none", x -> Due.text(x, "well"), x -> x.force(1), BAD);
    }

    // ---- what an E is

    /** Its value, told by what is done well of 0 .. 98, and by = for all others. */
    private static void value(String e, int want) {
        PostsFilled x = new PostsFilled();
        x.post(0, 60);
        x.post(1, 7);
        x.person(0, 140);
        x.person(0, 40);
        x.teach(1, 1);
        x.years(3);
        E.is("E: text of " + e, Due.text(x, "well " + e + TAIL), 1);
        x.force(1);
        E.is("E: " + e, x.told(1, 1, 8), Math.max(0, Math.min(99, want)));
        if (want >= -49 && want <= 49) {
            E.is("E: text of 50 + " + e, Due.text(x, "well 50 + (" + e + ")" + TAIL), 2);
            x.force(2);
            E.is("E: 50 + " + e, x.told(1, 1, 8), 50 + want);
        }
    }

    private static void wrapsIn32Bits() {
        value("4096*4096*128 < 0", 1);
        value("4096*4096*128 - 1 < 0", 0);
        value("4096*4096*128 - 1", FAR);
        value("4096*4096*64 + 4096*4096*64 < 0", 1);
        value("- 4096*4096*128 < 0", 1);
        value("-(4096*4096*128) < 0", 1);
        value("0 - 4096*4096*128 - 1", FAR);
        value("4096*4096*128 = -(4096*4096*128)", 1);
        value("4096*4096*256", 0);
        value("4096*4096*256 + 5", 5);
        value("9999*9999 < 0", 0);
        value("4096*4096*128 < 4096*4096*128 - 1", 1);
        value("not 4096*4096*256", 1);
        value("4096*4096*128 and 1", 1);
        value("4096*4096*256 or 0", 0);
    }

    private static void truthIs1Or0() {
        value("0 or 0", 0);
        value("0 and 0", 0);
        value("1 and not 0", 1);
        value("1 and not 1", 0);
        value("0 or not 0", 1);
        value("0 or not 5", 0);
        value("1 or 0 or not 0", 1);
        value("2 or 0", 1);
        value("0 or 2", 1);
        value("-1 or 0", 1);
        value("2 and 2", 1);
        value("2 and 0", 0);
        value("0 and 2", 0);
        value("-1 and -1", 1);
        value("not 2", 0);
        value("not -1", 0);
        value("not 0", 1);
        value("not not 7", 1);
        value("2 < 3", 1);
        value("3 < 3", 0);
        value("4 < 3", 0);
        value("-1 < 0", 1);
        value("0 < -1", 0);
        value("3 = 3", 1);
        value("3 = 2", 0);
        value("3 = 4", 0);
    }

    private static void whatBindsFirst() {
        value("1 or 0 and 0", 1);
        value("0 and 0 or 1", 1);
        value("not 1 or 1", 1);
        value("not 0 and 0", 0);
        value("not 1 = 0", 1);
        value("not 2 < 1 + 0", 1);
        value("1 + 2 < 4", 1);
        value("4 < 2 + 3", 1);
        value("2 + 3 * 4 - 5", 9);
        value("2 * 3 + 4 * 5", 26);
        value("9 - 4 - 3", 2);
        value("9 - (4 - 3)", 8);
        value("-2 * -3", 6);
        value("10 + -2", 8);
        value("- 2 + 10", 8);
        value("(1 or 0) * 7", 7);
    }

    private static void namesOfOneAndAPost() {
        PostsFilled x = new PostsFilled();
        x.post(0, 0);
        x.post(1, 99);
        x.post(0, 60);
        x.person(2, 90);
        x.person(0, 109);
        Due.text(x, "well own;cost 50+own;pay own;");
        Due.text(x, "well number;cost 50+number;pay number;");
        Due.text(x, "well years;cost 50+years;pay years;");
        Due.text(x, "well must;cost 50+must;pay must;");
        Due.text(x, "well value;cost 1+value;pay value;");
        x.teach(0, 1);
        x.teach(0, 2);
        x.years(9);
        x.teach(0, 2);
        x.years(1);
        int[][] want = {{}, {1, 0, 0, 0}, {9, 9, 9, 0}, {99, 10, 1, 99}, {0, 1, 0, 1}, {0, 99, 60, 99}};
        for (int text = 1; text < 6; text++) {
            x.force(text);
            for (int q = 0; q < 3; q++) {
                E.is("names: well by text " + text + " of post " + q, x.told(0, q, 8), want[text][q]);
            }
            int ownOfOther = text == 1 ? 1 : want[text][3];
            E.is("names: of another one's own post, by text " + text, x.told(1, 1, 8), ownOfOther);
        }
        x.force(3);
        E.is("names: years since its own: never taught", x.pay(1), 99);
        x.force(2);
        E.is("names: number 9, three posts kept (a clerk keeps 11 years)", x.pay(0), 27);
    }

    private static void taughtIsHowMany() {
        PostsFilled x = new PostsFilled();
        for (int q = 0; q < 6; q++) {
            x.post(1, 1);
        }
        x.person(0, 0);
        Due.text(x, "well taught" + TAIL);
        x.force(1);
        for (int q = 0; q < 6; q++) {
            E.is("names: taught " + q + " posts", x.told(0, 5, 8), q);
            x.teach(0, q + 1);
        }
        x.years(9);
        x.bar(0, 1, 1);
        E.is("names: what is forgotten, what it is barred from, was taught", x.told(0, 0, 8), 5);
    }

    private static void yearsTill99() {
        PostsFilled x = new PostsFilled();
        x.post(1, 1);
        x.post(1, 1);
        x.person(0, 0);
        Due.text(x, "well years" + TAIL);
        x.force(1);
        E.is("names: 99: never taught", x.told(0, 1, 8), 99);
        x.teach(0, 1);
        E.is("names: taught this year", x.told(0, 1, 8), 0);
        for (int n = 0; n < 10; n++) {
            x.years(9);
        }
        E.is("names: 90 years ago", x.told(0, 1, 8), 90);
        x.years(8);
        E.is("names: 98 years ago", x.told(0, 1, 8), 98);
        x.years(1);
        E.is("names: 99 years ago", x.told(0, 1, 8), 99);
    }

    // ---- bounds

    private static void bound(String e, int well, int cost, int pay) {
        PostsFilled x = new PostsFilled();
        x.post(1, 1);
        x.person(0, 0);
        Due.text(x, "well " + e + ";cost " + e + ";pay " + e + ";");
        x.force(1);
        E.is("bounds: well " + e, x.told(0, 0, 8), well);
        E.is("bounds: cost " + e, x.told(0, 0, 9), cost);
        E.is("bounds: pay " + e, x.pay(0), pay);
    }

    private static void bounds() {
        bound("-1", 0, 1, 0);
        bound("0", 0, 1, 0);
        bound("1", 1, 1, 1);
        bound("2", 2, 2, 2);
        bound("98", 98, 98, 98);
        bound("99", 99, 99, 99);
        bound("100", 99, 99, 100);
        bound("998", 99, 99, 998);
        bound("999", 99, 99, 999);
        bound("1000", 99, 99, 999);
        bound("4096*4096*128", 0, 1, 0);
        bound("4096*4096*128-1", 99, 99, 999);
    }

    private static void textZero() {
        PostsFilled x = new PostsFilled();
        x.post(1, 0);
        x.post(1, 6);
        x.post(1, 95);
        x.post(1, 96);
        x.post(1, 97);
        x.person(2, 90);
        x.person(0, 0);
        E.is("TEXT 0: own, never taught", x.told(0, 0, 8), 10);
        E.is("TEXT 0: never taught", x.told(0, 1, 8), 0);
        E.is("TEXT 0: cost 3 + 0 - 9 is below the bound", x.told(0, 0, 9), 1);
        E.is("TEXT 0: cost 3 + 6 - 9 is below the bound", x.told(0, 1, 9), 1);
        E.is("TEXT 0: cost 3 + 95", x.told(1, 2, 9), 98);
        E.is("TEXT 0: cost 3 + 96", x.told(1, 3, 9), 99);
        E.is("TEXT 0: cost 3 + 97 is above the bound", x.told(1, 4, 9), 99);
        x.teach(0, 1);
        for (int n = 0; n <= 6; n++) {
            E.is("TEXT 0: taught " + n + " years ago", x.told(0, 1, 8), Math.max(0, 5 - n));
            x.years(1);
        }
        E.is("TEXT 0: pay 10 for each of two that count", x.pay(0), 20);
    }

    public static void main(String[] args) {
        feeds1To8Bytes();
        lowestFirst();
        highestByteIsFed();
        tapeHas160AtMost();
        textOf160();
        everyByteBehindANumber();
        everyByteAheadOfANumber();
        blanksMayStandBetween();
        tokensAsLongAsCanBe();
        numbersOf4DigitsAtMost();
        wordsAreKeysOrNames();
        partsInTheirOrder();
        endsTooEarly();
        wherePartsOfAnECanStand();
        theFirstFaultIsTold();
        fiveOpen();
        fiveOpenOfAllTogether();
        openTillWhatTheyBelongToEnds();
        aFaultTakesTheTape();
        aFaultIsNoPartOfTheNext();
        sixTextsAtMost();
        forceRefuses();
        wrapsIn32Bits();
        truthIs1Or0();
        whatBindsFirst();
        namesOfOneAndAPost();
        taughtIsHowMany();
        yearsTill99();
        bounds();
        textZero();
        E.end();
    }
}
