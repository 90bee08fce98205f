/** Promises 9 to 11, and how TEXTS are worked out. */
public final class TextsTest {
    private static final Due DUE = new Due();

    public static void main(String[] args) {
        tape();
        uses();
        faults();
        faultsOfUses();
        workedOut();
        longest();
        DUE.end();
    }

    private static void tape() {
        FigureTill x = new FigureTill();
        DUE.is("n below", x.feed(1, 0), Due.BEYOND);
        DUE.is("n above", x.feed(1, 9), Due.BEYOND);
        DUE.is("n below", x.feed(1, -1), Due.BEYOND);
        DUE.is("feed", x.feed(0x2B73L, 2), 2);
        DUE.is("feed", x.feed(0xFFFFFFFF31L, 1), 3);
        DUE.is("bytes", x.count(4), 3);
        DUE.is("text", x.text(0), 1);
        DUE.is("bytes", x.count(4), 0);
        x.till(0, 60);
        DUE.is("lowest first", x.asks(0, 6, 1), 7);
        for (int i = 1; i <= 7; i++) {
            DUE.is("feed 8", x.feed(0x2020202020202020L, 8), 8 * i);
        }
        DUE.is("full", x.feed(0, 5), Due.FULL);
        DUE.is("feed 4", x.feed(0, 4), 60);
        DUE.is("full", x.feed(0, 1), Due.FULL);
        DUE.is("beyond ahead of full", x.feed(0, 9), Due.BEYOND);
        DUE.is("bytes", x.count(4), 60);
        DUE.is("told FULL", x.told(4), 2);
    }

    private static void uses() {
        FigureTill x = new FigureTill();
        x.till(1, 65);
        Due.feed(x, "7");
        DUE.is("no such use", x.text(2), Due.BEYOND);
        DUE.is("no such use", x.text(-1), Due.BEYOND);
        DUE.is("the tape stays", x.count(4), 1);
        DUE.is("text", x.text(0), 1);
        DUE.is("told", x.asks(1, 19, 1), 7);
        DUE.is("fault", Due.law(x, 0, "8+"), -12);
        DUE.is("the tape is empty", x.count(4), 0);
        DUE.is("the one ahead stays", x.asks(1, 19, 1), 7);
        DUE.is("in place of one ahead", Due.law(x, 0, "m"), 1);
        DUE.is("told", x.asks(1, 19, 1), 5);
        DUE.is("values", Due.law(x, 1, "t+1"), 1);
        DUE.is("value", x.thingIs(6, 3), 7);
        DUE.is("no such use", x.untell(2), Due.BEYOND);
        DUE.is("no such use", x.untell(-1), Due.BEYOND);
        DUE.is("untell", x.untell(0), 1);
        DUE.is("without a text", x.asks(1, 19, 1), 10);
        DUE.is("untell again", x.untell(0), 0);
        DUE.is("the other stays", x.thingIs(6, 3), 7);
        DUE.is("untell", x.untell(1), 1);
        DUE.is("value", x.thingIs(6, 3), 0);
    }

    private static void fault(String text, int place) {
        FigureTill x = new FigureTill();
        Due.feed(x, text);
        DUE.is("text(0) of " + text, x.text(0), place < 0 ? 1 : -10 - place);
        DUE.is("no ERROR", x.told(1) + x.told(2) + x.told(3) + x.told(4) + x.told(5) + x.told(6), 0);
    }

    private static void faults() {
        String[] texts = {"s", "0", "0007", "s|k&m<1|!s=0", "1=1&2>1", "!!!!!s", "(((((s)))))", "!(!(!s))",
            "!(s)+!(s)*!!!!!k", "(s+1)*(k-1)%m", "s<1&s=2|s>3", "(s<1)<(s=2)", "1-2-3/4/5"};
        for (String text : texts) {
            fault(text, -1);
        }
        fault("", 0);
        fault("s+", 2);
        fault("s s", 1);
        fault(" s", 0);
        fault("12345", 4);
        fault("(12345", 5);
        fault("s<1<2", 3);
        fault("s=1>2", 3);
        fault("s|k&m<1=0|!s", 7);
        fault("(s=1=2)", 4);
        fault("sk", 1);
        fault("s1", 1);
        fault("1s", 1);
        fault("(s", 2);
        fault("s)", 1);
        fault("((s)", 4);
        fault("((s)))", 5);
        fault("()", 1);
        fault("!", 1);
        fault("!+s", 1);
        fault("s!", 1);
        fault("-s", 0);
        fault("s--s", 2);
        fault("s||k", 2);
        fault("s&|k", 2);
        fault("s&&k", 2);
        fault("!!!!!!s", 5);
        fault("((((((s", 5);
        fault("!(!(!(s", 5);
        fault("(((((!s", 5);
        fault("(((((s!", 6);
        fault("p", 0);
        fault("S", 0);
        fault("s+#", 2);
        fault("s(", 1);
        fault("s" + (char) 0, 1);
        fault("" + (char) 243, 0);
    }

    private static void faultsOfUses() {
        FigureTill x = new FigureTill();
        DUE.is("names of use 1", Due.law(x, 1, "t*p+c"), 1);
        DUE.is("no name of use 1", Due.law(x, 1, "t*s"), -12);
        DUE.is("no name of use 1", Due.law(x, 1, "k"), -10);
        DUE.is("no name of use 1", Due.law(x, 1, "t+m"), -12);
        DUE.is("no name of use 0", Due.law(x, 0, "s+t"), -12);
        DUE.is("no name of use 0", Due.law(x, 0, "s+c"), -12);
    }

    private static void comes(String text, int due) {
        FigureTill x = new FigureTill();
        x.till(0, 67);
        DUE.is("text " + text, Due.law(x, 0, text), 1);
        DUE.is(text, x.asks(0, 12, 5), due);
    }

    private static void workedOut() {
        comes("s", 12);
        comes("k", 5);
        comes("m", 7);
        comes("0012", 12);
        comes("9-3-2", 4);
        comes("100/10/3", 3);
        comes("100/7%4", 2);
        comes("2+3*4", 14);
        comes("(2+3)*4", 20);
        comes("10-7%4", 7);
        comes("s/0", 0);
        comes("5+s%0", 5);
        comes("3+(0-7)/2", 0);
        comes("6+(0-7)/2", 3);
        comes("6+(0-7)%4", 3);
        comes("s<13", 1);
        comes("s<12", 0);
        comes("s>11", 1);
        comes("s>12", 0);
        comes("s=12", 1);
        comes("s=13", 0);
        comes("5&7", 1);
        comes("5&0", 0);
        comes("0&5", 0);
        comes("5|0", 1);
        comes("0|5", 1);
        comes("0|0", 0);
        comes("0&0|1", 1);
        comes("1|0&0", 1);
        comes("!5", 0);
        comes("!0", 1);
        comes("!!5", 1);
        comes("!s+3", 3);
        comes("!(s-12)*9", 9);
        comes("1+1<1+2", 1);
        comes("(1<2)+(2>1)+(3=3)", 3);
        comes("9999*9999*9999<0", 1);
        comes("9999*9999*9999*9999<0", 0);
        comes("(0-2)*8192*8192*16/(0-1)<0", 1);
        comes("(0-2)*8192*8192*16%(0-1)", 0);
        comes("9999+9999", 9999);
        comes("0-1", 0);
    }

    private static void longest() {
        StringBuilder text = new StringBuilder("1");
        for (int i = 0; i < 29; i++) {
            text.append("+1");
        }
        comes(text.toString(), 30);
        fault(text + "+", 60);
        comes("1|1&1<1+1*(1|1&1<1+1*(1|1&1<1+1*(1|1&1<1+1*(1|1&1<1+1))))", 1);
        comes("1+1*(1+1*(1+1*(1+1*(1+1*(7-1*9999/9999+s*k-m*2+0*9)))))", 57);
    }
}
