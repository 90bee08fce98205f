/** The edges in term 2 and promises 9 to 11, a test for each sentence. */
public final class EdgesTextsTest {
    private static final Due DUE = new Due();
    private static final int VALID = -1;

    public static void main(String[] args) {
        tapeOfSixty();
        oneToEightBytesLowestFirst();
        theTapeBehindText();
        numbersOfOneToFourDigits();
        fiveOpenAtMost();
        oneComparisonEach();
        endsTooEarly();
        eachByteAtFirst();
        eachByteBehindAName();
        namesOfTheirUse();
        intsThatWrap();
        cutTowardNothing();
        byNothing();
        truths();
        placesOfOrder();
        usesOfATextInPlace();
        valuesHeld();
        untellOnce();
        DUE.end();
    }

    /** "(bytes, at most 60)": a TEXT of 60 bytes is one, a sixty-first byte is FULL. */
    private static void tapeOfSixty() {
        FigureTill x = new FigureTill();
        x.till(0, 60);
        for (int i = 0; i < 15; i++) {
            DUE.is("four bytes more", x.feed(0x2B312B31L, 4), 4 * i + 4);
            DUE.is("bytes", x.count(4), 4 * i + 4);
        }
        DUE.is("a sixty-first", x.feed('1', 1), Due.FULL);
        DUE.is("sixty, the last a +", x.text(0), -70);
        for (int i = 0; i < 14; i++) {
            x.feed(0x2B312B31L, 4);
        }
        DUE.is("fifty-nine", x.feed(0x312B31L, 3), 59);
        DUE.is("two more don't fit", x.feed(0x3131L, 2), Due.FULL);
        DUE.is("one more does", x.feed('1', 1), 60);
        DUE.is("sixty that are a TEXT", x.text(0), 1);
        DUE.is("29 of 1, and 11", x.asks(0, 0, 1), 29 + 11);
    }

    /** "The n lowest bytes (1 .. 8) of a word, the lowest first". */
    private static void oneToEightBytesLowestFirst() {
        FigureTill x = new FigureTill();
        x.till(0, 60);
        long word = 0x392A3030312B3131L;
        int[] due = {1, 11, -13, 12, 21, 111, -17, 911};
        for (int n = 1; n <= 8; n++) {
            DUE.is(n + " bytes", x.feed(word, n), n);
            boolean ends = n != 3 && n != 7;
            DUE.is(n + " bytes are a TEXT", x.text(0), ends ? 1 : due[n - 1]);
            if (ends) {
                DUE.is("of " + n + " bytes", x.asks(0, 0, 1), due[n - 1]);
            }
        }
        DUE.is("a word below 0", x.feed(-1L, 8), 8);
        DUE.is("its bytes are 255", x.text(0), -10);
        DUE.is("the byte on top", x.feed(0x8031313131313131L, 8), 8);
        DUE.is("is 128, no sign; the fifth digit comes first", x.text(0), -14);
        x.feed(0x302B302B302B3031L, 7);
        x.feed(0x8000000000000000L, 8);
        DUE.is("bytes of 0 are bytes", x.count(4), 15);
        x.text(0);
        DUE.is("none", x.count(4), 0);
    }

    /** "THE TAPE, which is empty then"; "BEYOND (THE TAPE stays)"; FAULT: "THE TAPE is empty, too". */
    private static void theTapeBehindText() {
        FigureTill x = new FigureTill();
        Due.feed(x, "s");
        DUE.is("BEYOND", x.text(2), Due.BEYOND);
        DUE.is("it stays", x.count(4), 1);
        DUE.is("BEYOND", x.text(-1), Due.BEYOND);
        DUE.is("goes on from there", x.feed('+', 1), 2);
        DUE.is("a FAULT", x.text(0), -12);
        DUE.is("it is empty", x.count(4), 0);
        DUE.is("anew", x.feed('s', 1), 1);
        DUE.is("a TEXT", x.text(0), 1);
        DUE.is("it is empty", x.count(4), 0);
        DUE.is("nothing is no TEXT", x.text(0), -10);
        DUE.is("nor of the other USE", x.text(1), -10);
        for (int i = 0; i < 60; i++) {
            x.feed(' ', 1);
        }
        x.text(0);
        for (int i = 1; i <= 7; i++) {
            DUE.is("sixty fit again", x.feed(0, 8), 8 * i);
        }
        DUE.is("sixty fit again", x.feed(0, 4), 60);
        DUE.is("no ERROR but BEYOND", x.told(1), 2);
        DUE.is("no FULL", x.told(4), 0);
    }

    private static void fault(String text, int place) {
        FigureTill x = new FigureTill();
        DUE.is("text(0) of " + text, Due.law(x, 0, text), place < 0 ? 1 : -10 - place);
        DUE.is("what is told of " + text, x.untell(0), place < 0 ? 1 : 0);
        for (int k = 1; k <= 6; k++) {
            DUE.is("no ERROR", x.told(k), 0);
        }
    }

    private static void comes(String text, int due) {
        FigureTill x = new FigureTill();
        x.till(0, 63);
        DUE.is("text " + text, Due.law(x, 0, text), 1);
        DUE.is(text, x.asks(0, 7, 2), due);
    }

    /** "a NUMBER of 1 to 4 digits". */
    private static void numbersOfOneToFourDigits() {
        comes("0", 0);
        comes("9", 9);
        comes("10", 10);
        comes("999", 999);
        comes("9999", 9999);
        comes("0000", 0);
        comes("0009", 9);
        comes("0010-1", 9);
        fault("10000", 4);
        fault("00000", 4);
        fault("s+99999", 6);
        fault("(1234)5", 6);
        fault("12 4", 2);
    }

    /** "At most 5 of ! and ( are open at once". */
    private static void fiveOpenAtMost() {
        fault("!!!!!s", VALID);
        fault("!!!!!!s", 5);
        fault("(((((s)))))", VALID);
        fault("((((((s))))))", 5);
        fault("!(!(!s))", VALID);
        fault("!(!(!!s))", 5);
        fault("!(!(!(s)))", 5);
        fault("((((!s))))", VALID);
        fault("(((((!s)))))", 5);
        fault("!!!!(s)", VALID);
        fault("!!!!!(s)", 5);
        fault("!!!!!s+!!!!!s", VALID);
        fault("!!!!!s+!!!!!!s", 12);
        fault("(((((s)))))*(((((k)))))", VALID);
        fault("((((!s+!k*(m)))))", VALID);
        fault("((((!(s)))))", 5);
        fault("((((s))))+((((((s", 15);
        comes("!!!!!s", 0);
        comes("!!!!s", 1);
        comes("(((((s)))))", 7);
    }

    /** "B: S, or S < S, S = S, S > S": one of them, but each S may hold a T in ( ). */
    private static void oneComparisonEach() {
        for (char one : "<=>".toCharArray()) {
            for (char other : "<=>".toCharArray()) {
                fault("s" + one + "k", VALID);
                fault("s" + one + "k" + other + "m", 3);
                fault("s" + one + "k+1*2" + other + "m", 7);
                fault("s" + one + "k&m" + other + "1", VALID);
                fault("s" + one + "k|m" + other + "1", VALID);
                fault("(s" + one + "k)" + other + "m", VALID);
                fault("s" + one + "(k" + other + "m)", VALID);
                fault("s" + one + "(k" + other + "m" + one + "1)", 6);
                fault("s" + one + other + "m", 2);
            }
        }
    }

    /** "how many there are, if it ends too early": of a TEXT each beginning. */
    private static void endsTooEarly() {
        String text = "(s+1)*!k<2&m=34|4/(5%6)>!!7-m";
        String whole = "....T..T.T.T.TT.T.....T...T.T";
        for (int n = 0; n <= text.length(); n++) {
            boolean ends = n > 0 && whole.charAt(n - 1) == 'T';
            fault(text.substring(0, n), ends ? VALID : n);
        }
    }

    private static int faultOf(FigureTill x, String ahead, int sign) {
        Due.feed(x, ahead);
        x.feed(sign, 1);
        return x.text(0);
    }

    /** "the place of the first byte with which no TEXT goes on". */
    private static void eachByteAtFirst() {
        for (int sign = 0; sign < 256; sign++) {
            FigureTill x = new FigureTill();
            boolean ends = sign >= '0' && sign <= '9' || sign == 's' || sign == 'k' || sign == 'm';
            boolean goesOn = sign == '!' || sign == '(';
            DUE.is("byte " + sign + " at first", faultOf(x, "", sign), ends ? 1 : goesOn ? -11 : -10);
            DUE.is("byte " + sign + " behind 1+", faultOf(x, "1+", sign), ends ? 1 : goesOn ? -13 : -12);
        }
    }

    private static void eachByteBehindAName() {
        String joins = "|&<=>+-*/%";
        for (int sign = 0; sign < 256; sign++) {
            FigureTill x = new FigureTill();
            boolean goesOn = joins.indexOf(sign) >= 0;
            boolean isDigit = sign >= '0' && sign <= '9';
            DUE.is("byte " + sign + " behind s", faultOf(x, "s", sign), goesOn ? -12 : -11);
            DUE.is("byte " + sign + " behind 1", faultOf(x, "1", sign), isDigit ? 1 : goesOn ? -12 : -11);
            DUE.is("byte " + sign + " behind (s", faultOf(x, "(s", sign),
                sign == ')' ? 1 : goesOn ? -13 : -12);
        }
    }

    /** The NAMES of one USE are none of the other one's. */
    private static void namesOfTheirUse() {
        for (char sign : "skmtpc".toCharArray()) {
            FigureTill x = new FigureTill();
            boolean pays = "skm".indexOf(sign) >= 0;
            DUE.is(sign + " of USE 0", Due.law(x, 0, "" + sign), pays ? 1 : -10);
            DUE.is(sign + " of USE 1", Due.law(x, 1, "" + sign), pays ? -10 : 1);
        }
        FigureTill x = new FigureTill();
        x.till(0, 64);
        Due.law(x, 0, "s*100+k*10+m");
        DUE.is("s, k, m", x.asks(0, 7, 2), 724);
        x.thing(7, 0, 5);
        x.thing(7, 1, 3);
        Due.law(x, 1, "(t=7)*10+(p=5)*20+(c=3)*40");
        DUE.is("t, p, c of the last THING", x.thingIs(7, 3), 70);
        DUE.is("of THING 0", x.thingIs(0, 3), 0);
    }

    /** "Ints that wrap". */
    private static void intsThatWrap() {
        String most = "(8192*8192*32-1)";
        comes(most + "/8192/8192", 31);
        comes(most + ">0", 1);
        comes(most + "+1<0", 1);
        comes("0-" + most + "<0", 1);
        comes("0-" + most + "-1<0", 1);
        comes("0-" + most + "-2>0", 1);
        comes(most + "*2=0-2", 1);
        comes("8192*8192*64=0", 1);
        // the least int by -1 is itself, and nothing is left
        comes("8192*8192*32/(0-1)<0", 1);
        comes("8192*8192*32%(0-1)+5", 5);
    }

    /** "/ cut, % the rest that it leaves". */
    private static void cutTowardNothing() {
        comes("7/2", 3);
        comes("9+(0-7)/2", 6);
        comes("9+7/(0-2)", 6);
        comes("(0-7)/(0-2)", 3);
        comes("9+(0-1)/2", 9);
        comes("7%2", 1);
        comes("9+(0-7)%2", 8);
        comes("9+7%(0-2)", 10);
        comes("9+(0-7)%(0-2)", 8);
        comes("5%9", 5);
        comes("9%9", 0);
    }

    /** "both by 0 are 0". */
    private static void byNothing() {
        comes("5+7/0", 5);
        comes("5+7%0", 5);
        comes("5+0/0", 5);
        comes("5+0%0", 5);
        comes("5+(0-7)/0", 5);
        comes("5+(0-7)%(k-2)", 5);
        comes("5+s/(s-7)*9", 5);
        comes("0&(1/0)|1%0|5", 1);
        comes("(1|(1/0))+5", 6);
    }

    /** "| & < = > ! are 1 or 0, what is not 0 being true". */
    private static void truths() {
        int[] numbers = {0, 1, 5};
        for (int a : numbers) {
            for (int b : numbers) {
                comes("3+(" + a + "|" + b + ")", 3 + (a + b > 0 ? 1 : 0));
                comes("3+(" + a + "&" + b + ")", 3 + (a * b > 0 ? 1 : 0));
                comes("3+(" + a + "<" + b + ")", 3 + (a < b ? 1 : 0));
                comes("3+(" + a + "=" + b + ")", 3 + (a == b ? 1 : 0));
                comes("3+(" + a + ">" + b + ")", 3 + (a > b ? 1 : 0));
            }
            comes("3+!" + a, 3 + (a == 0 ? 1 : 0));
        }
        comes("3+!(0-1)", 3);
        comes("3+((0-1)&(0-5))", 4);
        comes("3+(0|(0-5))", 4);
        comes("3+(0-5<0-4)", 4);
        comes("3+(0-4>0-5)", 4);
    }

    /** What binds more, and what stands left, is joined first; ! takes one Q alone. */
    private static void placesOfOrder() {
        comes("9-3-2", 4);
        comes("64/4/2", 8);
        comes("64/4*2", 32);
        comes("64*3%5", 2);
        comes("9-3+2", 8);
        comes("2+3*4-1", 13);
        comes("1+1=2", 1);
        comes("3>1+1&0", 0);
        comes("1|1&0", 1);
        comes("0&0|1", 1);
        comes("(1|1)&0", 0);
        comes("!0+1", 2);
        comes("!(0+1)", 0);
        comes("!s*9", 0);
        comes("!!s+!0*4", 5);
    }

    /** "in place of one ahead"; FAULT: "the one ahead stays". */
    private static void usesOfATextInPlace() {
        FigureTill x = new FigureTill();
        x.till(0, 60);
        x.till(3, 61);
        for (int use = 0; use < 2; use++) {
            DUE.is("at first", Due.law(x, use, "5"), 1);
            DUE.is("in place", Due.law(x, use, "6"), 1);
            DUE.is("a FAULT at its end", Due.law(x, use, "7+8*"), -14);
            DUE.is("a FAULT at first", Due.law(x, use, "z"), -10);
            DUE.is("no bytes", x.text(use), -10);
        }
        DUE.is("PAYS", x.asks(0, 1, 1), 6);
        DUE.is("at each TOLD till", x.asks(3, 1, 1), 6);
        DUE.is("VALUES", x.thingIs(0, 3), 6);
        Due.law(x, 1, "4");
        DUE.is("the other USE stays", x.asks(0, 1, 1), 6);
        Due.law(x, 0, "3");
        DUE.is("the other USE stays", x.thingIs(0, 3), 4);
    }

    /** VALUES: "held within 0 .. 99; without a TEXT 0". */
    private static void valuesHeld() {
        FigureTill x = new FigureTill();
        DUE.is("without a TEXT", x.thingIs(7, 3), 0);
        Due.law(x, 1, "p-100");
        int[] prices = {1, 99, 100, 101, 198, 199, 200, 9999};
        for (int price : prices) {
            x.thing(4, 0, price);
            DUE.is("of PRICE " + price, x.thingIs(4, 3), Math.max(0, Math.min(99, price - 100)));
        }
        Due.law(x, 1, "c");
        int[] costs = {0, 1, 98, 99, 100, 9999};
        for (int cost : costs) {
            x.thing(4, 1, cost);
            DUE.is("of COST " + cost, x.thingIs(4, 3), Math.min(99, cost));
        }
        x.untell(1);
        DUE.is("untold", x.thingIs(4, 3), 0);
    }

    /** "1 if there was, else 0". */
    private static void untellOnce() {
        FigureTill x = new FigureTill();
        for (int use = 0; use < 2; use++) {
            DUE.is("none", x.untell(use), 0);
            Due.law(x, use, "+");
            DUE.is("a FAULT is none", x.untell(use), 0);
            Due.law(x, use, "0");
            DUE.is("one", x.untell(use), 1);
            DUE.is("no more", x.untell(use), 0);
        }
        Due.law(x, 0, "5");
        Due.law(x, 1, "5");
        Due.feed(x, "s");
        DUE.is("one alone", x.untell(0), 1);
        DUE.is("THE TAPE stays", x.count(4), 1);
        DUE.is("the other stays", x.untell(1), 1);
    }
}
