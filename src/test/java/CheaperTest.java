import java.math.BigInteger;

/** Promises 17 to 24. */
public final class CheaperTest {
    private static final Due DUE = new Due();

    public static void main(String[] args) {
        more();
        moreOfSeveral();
        moreAtLimits();
        inTwo();
        together();
        worth();
        dearer();
        nines();
        erring();
        wasIn();
        refusals();
        DUE.end();
    }

    private static void dueMore(FigureTill x, int sheet, int till, int e, int paid, int net, int... row) {
        DUE.is("more " + e + " pays", x.more(sheet, till, e, -1), paid);
        DUE.is("more " + e + " net", x.more(sheet, till, e, -2), net);
        for (int i = 0; i < 8; i++) {
            DUE.is("more " + e + " of " + i, x.more(sheet, till, e, i), row[i]);
        }
    }

    private static void more() {
        FigureTill x = new FigureTill();
        Due.fill(x, 0, 0, 0, 0, 0, 0, 0, 0, 1);
        dueMore(x, 0, 0, 0, 27, 27, 0, 0, 0, 0, 0, 0, 0, 0);
        dueMore(x, 0, 0, 1, 1, 1, 1, 0, 0, 0, 0, 0, 0, 0);
        dueMore(x, 0, 0, 4, 1, 1, 1, 0, 0, 0, 0, 0, 0, 0);
        Due.law(x, 1, "(t=4)*50");
        // 999 and 99: 1098 pays 18, less 50
        dueMore(x, 0, 0, 1, 18, -32, 0, 0, 0, 0, 1, 0, 0, 0);
        x.thing(0, 2, 0);
        x.untell(1);
        dueMore(x, 0, 0, 1, 1, 1, 1, 0, 0, 0, 0, 0, 0, 0);
        x.sheet(1, 8, 0);
        dueMore(x, 1, 0, 4, 0, 0, 0, 0, 0, 0, 0, 0, 0, 0);
    }

    private static void moreOfSeveral() {
        FigureTill x = new FigureTill();
        x.till(0, 10);
        for (int i = 0; i < 8; i++) {
            x.thing(i, 0, 5);
        }
        Due.fill(x, 0, 1);
        // one more thing of any kind makes it 10, which pays 0: the last thing's row is least
        dueMore(x, 0, 0, 4, 0, 0, 0, 0, 0, 0, 0, 0, 0, 1);
        Due.fill(x, 0, 1, 0, 0, 0, 0, 0, 0, 9);
        dueMore(x, 0, 0, 3, 0, 0, 0, 0, 0, 0, 0, 0, 0, 0);
        Due.fill(x, 0, 0, 0, 0, 0, 0, 0, 0, 9);
        dueMore(x, 0, 0, 3, 0, 0, 0, 0, 0, 0, 0, 0, 1, 0);
        int[] prices = {6, 4, 10, 10, 10, 10, 10, 3};
        for (int i = 0; i < 8; i++) {
            x.thing(i, 0, prices[i]);
        }
        Due.fill(x, 0, 0, 1);
        // two of THING 7 would do, too: their row is less, but they are more
        dueMore(x, 0, 0, 2, 0, 0, 1, 0, 0, 0, 0, 0, 0, 0);
        for (int i = 0; i < 8; i++) {
            x.thing(i, 0, 5);
        }
        Due.law(x, 1, "1");
        Due.fill(x, 0, 1);
        dueMore(x, 0, 0, 4, 0, -3, 0, 0, 0, 0, 0, 0, 0, 3);
        dueMore(x, 0, 0, 2, 0, -1, 0, 0, 0, 0, 0, 0, 0, 1);
    }

    private static void moreAtLimits() {
        FigureTill x = new FigureTill();
        Due.law(x, 1, "99");
        Due.fill(x, 0, 9, 9, 9, 1);
        int[] none = new int[8];
        DUE.is("to thirty alone", x.more(0, 1, 4, -2) - x.more(0, 1, 4, -1), -198);
        Due.fill(x, 0, 9, 9, 9, 3);
        dueMore(x, 0, 1, 4, 6, 6, none);
        Due.fill(x, 0, 0, 0, 0, 0, 0, 0, 9, 8);
        x.thing(6, 0, 1000);
        x.thing(7, 0, 1000);
        Due.law(x, 1, "(t>5)*99");
        // the only ones that are worth it are full, or lack one
        dueMore(x, 0, 0, 4, 9, -90, 0, 0, 0, 0, 0, 0, 0, 1);
    }

    private static void inTwo() {
        FigureTill x = new FigureTill();
        Due.fill(x, 0, 1, 0, 1);
        DUE.is("as one: 20", x.inTwo(0, 0), 2);
        x.till(1, 10);
        x.thing(0, 0, 15);
        x.thing(1, 0, 25);
        x.thing(2, 0, 7);
        Due.fill(x, 0, 1, 1, 1);
        DUE.is("15 and 25, or 7 at LAST", x.inTwo(0, 1), 7);
        x.till(2, 68);
        Due.law(x, 0, "(s>30)*500+s");
        DUE.is("25 and 22", x.inTwo(0, 2), 47);
        x.thing(2, 0, 4);
        DUE.is("15 and 29", x.inTwo(0, 2), 44);
        Due.law(x, 0, "k*k");
        Due.fill(x, 0, 7, 0, 0, 5);
        DUE.is("six and six", x.inTwo(0, 2), 72);
        Due.law(x, 0, "100-k*k/2");
        DUE.is("twelve and nothing", x.inTwo(0, 2), 28);
        Due.fill(x, 0, 7, 0, 0, 6);
        DUE.is("thirteen", x.inTwo(0, 2), Due.FULL);
        x.sheet(0, 16, 2);
        DUE.is("nothing", x.inTwo(0, 2), 0);
    }

    private static void together() {
        FigureTill x = new FigureTill();
        Due.fill(x, 0, 1);
        Due.fill(x, 1, 0, 0, 1);
        DUE.is("1 and 10, less 2", x.together(0, 1, 0), 9);
        DUE.is("1 and 1, less 2", x.together(0, 0, 0), 0);
        Due.fill(x, 2, 0, 9);
        DUE.is("18 of one are fine", x.together(2, 2, 0), 9 + 9 - 9);
        Due.fill(x, 2, 9, 6);
        DUE.is("thirty", x.together(2, 2, 0), 9 + 9 - 9);
        Due.fill(x, 3, 9, 7);
        DUE.is("thirty-one", x.together(2, 3, 0), Due.FULL);
        Due.fill(x, 3, 9, 9, 9, 4);
        DUE.is("one above thirty", x.together(1, 3, 0), Due.FULL);
        Due.fill(x, 1, 10);
        DUE.is("beyond ahead of full", x.together(1, 3, 0), Due.BEYOND);
        DUE.is("beyond ahead of full", x.together(3, 1, 0), Due.BEYOND);
        x.sheet(3, 0, 0);
        DUE.is("missing ahead of beyond", x.together(1, 3, 0), Due.NONE);
        DUE.is("missing ahead of beyond", x.together(3, 1, 0), Due.NONE);
        DUE.is("no such sheet", x.together(3, 4, 0), Due.BEYOND);
        DUE.is("no such sheet", x.together(-1, 3, 0), Due.BEYOND);
        DUE.is("no such till", x.together(3, 3, 4), Due.BEYOND);
        x.sheet(3, 8, 0);
        DUE.is("nothing with something", x.together(0, 3, 0), 0);
    }

    private static void worth() {
        FigureTill x = new FigureTill();
        Due.fill(x, 0, 0, 0, 1);
        DUE.is("worth of matches", x.worth(0, 0, 0), 8);
        DUE.is("worth of 250", x.worth(0, 0, 6), 10 - 17);
        Due.fill(x, 0, 9);
        DUE.is("a tenth one", x.worth(0, 0, 0), 8);
        Due.fill(x, 0, 9, 9, 9, 2);
        DUE.is("a thirtieth one", x.worth(0, 0, 0), (3 + 0 + 1) - (3 + 0 + 2));
        Due.fill(x, 0, 9, 9, 9, 3);
        DUE.is("a thirty-first one", x.worth(0, 0, 0), Due.FULL);
        DUE.is("no such thing", x.worth(0, 0, 8), Due.BEYOND);
        DUE.is("no such thing", x.worth(0, 0, -1), Due.BEYOND);
        DUE.is("beyond ahead of missing", x.worth(3, 0, 8), Due.BEYOND);
        DUE.is("missing", x.worth(3, 0, 7), Due.NONE);
        x.sheet(0, 8, 0);
        DUE.is("to nothing", x.worth(0, 0, 1), -9);
        x.till(1, 60);
        Due.law(x, 0, "k*k");
        Due.fill(x, 0, 4);
        DUE.is("one more alone", x.worth(0, 1, 7), 16 - 25);
    }

    private static void dearer() {
        FigureTill x = new FigureTill();
        Due.fill(x, 0, 0, 0, 1);
        DUE.is("nothing is dearer for it", x.dearer(0, 0, 0), 0);
        DUE.is("matches for eleven? no: eight more", x.dearer(0, 0, 1), 8);
        Due.fill(x, 0, 1);
        DUE.is("for nine", x.dearer(0, 0, 0), 8);
        x.thing(0, 0, 9997);
        DUE.is("9998, 9999 alone", x.dearer(0, 0, 0), 2);
        x.thing(0, 0, 9999);
        DUE.is("none above 9999", x.dearer(0, 0, 0), 0);
        DUE.is("the PRICE is as it was", x.thingIs(0, 0), 9999);
        x.thing(0, 0, 8);
        DUE.is("for nine, one more", x.dearer(0, 0, 0), 1);
        x.thing(7, 0, 10);
        Due.fill(x, 0, 0, 0, 0, 0, 0, 0, 0, 1);
        DUE.is("the last thing", x.dearer(0, 0, 0), 79);
        DUE.is("the PRICE is as it was", x.thingIs(7, 0), 10);
        x.till(1, 60);
        Due.law(x, 0, "s");
        Due.law(x, 1, "(t=1)*(p<12)*90");
        Due.fill(x, 0, 1);
        x.thing(0, 0, 5);
        x.thing(1, 0, 10);
        // at 10 and 11 a thing 1 is taken along, at 12 it isn't
        DUE.is("VALUES by that PRICE", x.dearer(0, 1, 1), 9);
        Due.law(x, 1, "(t=2)*(p<26)*90");
        x.thing(2, 0, 20);
        // one of THING 2 for 5 more is less than THING 0 for 9 more; two of it are more
        DUE.is("by one more", x.dearer(0, 1, 1), 9);
        DUE.is("by two more", x.dearer(0, 1, 2), 25);
        Due.law(x, 0, "(k=1)*s");
        DUE.is("one thing", x.dearer(0, 1, 0), 9);
        Due.law(x, 0, "s");
        x.thing(0, 0, 9999);
        x.thing(1, 0, 1);
        Due.law(x, 1, "0");
        DUE.is("held", x.dearer(0, 1, 1), 0);
        DUE.is("e above", x.dearer(0, 0, 3), Due.BEYOND);
        DUE.is("e below", x.dearer(0, 0, -1), Due.BEYOND);
    }

    private static void nines() {
        FigureTill x = new FigureTill();
        DUE.is("not by nine", x.nines(-1), 0);
        DUE.is("least", x.nines(0), 1);
        for (int i = 0; i < 8; i++) {
            x.thing(i, 2, 0);
            x.thing(i, 0, 9 * (i + 1));
        }
        DUE.is("by nine", x.nines(-1), 1);
        DUE.is("least", x.nines(0), 9);
        x.thing(0, 0, 1);
        DUE.is("not by nine", x.nines(-1), 0);
        x.thing(0, 0, 9);
        x.till(3, 13);
        DUE.is("the last till", x.nines(3), 0);
        x.thing(7, 0, 73);
        DUE.is("not by nine", x.nines(-1), 0);
        x.till(1, 60);
        Due.law(x, 0, "100-k");
        DUE.is("three things at most", x.nines(1), 97);
        Due.law(x, 0, "k*5");
        DUE.is("one thing at least", x.nines(1), 5);
        Due.law(x, 0, "(k<3)*500+s%7+(s<219)*3");
        DUE.is("three of the dearest", x.nines(1), 219 % 7);
        Due.law(x, 0, "9999");
        DUE.is("most", x.nines(1), 9999);
        DUE.is("no such till", x.nines(4), Due.BEYOND);
        DUE.is("no such till", x.nines(-2), Due.BEYOND);
    }

    /** A clerk of so many cases who takes 1 more, of a BASKET that pays so much. */
    private static void erringOf(int paid, int u) {
        FigureTill x = new FigureTill();
        x.till(0, 60);
        Due.law(x, 0, "" + paid);
        Due.fill(x, 0, 1);
        for (int v = 0; v <= 16; v++) {
            int above = (16 - u - v) * paid + u * (paid + 1) + v * Math.max(0, paid - 1);
            int common = BigInteger.valueOf(above).gcd(BigInteger.valueOf(16)).intValue();
            boolean together = u + v <= 16;
            DUE.is("above", x.erring(0, 0, 17 * u + v, 0), together ? above / common : Due.BEYOND);
            DUE.is("below", x.erring(0, 0, 17 * u + v, 1), together ? 16 / common : Due.BEYOND);
        }
    }

    private static void erring() {
        for (int paid = 0; paid < 4; paid++) {
            for (int u = 0; u <= 16; u++) {
                erringOf(paid, u);
            }
        }
        FigureTill x = new FigureTill();
        x.till(0, 60);
        Due.fill(x, 0, 1);
        x.sheet(1, 8, 0);
        DUE.is("for nothing", x.erring(1, 0, 16 * 17, 0), 0);
        DUE.is("for nothing", x.erring(1, 0, 16 * 17, 1), 1);
        DUE.is("odds below", x.erring(0, 0, -1, 0), Due.BEYOND);
        DUE.is("odds above", x.erring(0, 0, 289, 0), Due.BEYOND);
        DUE.is("odds above", x.erring(0, 0, Integer.MAX_VALUE, 0), Due.BEYOND);
        DUE.is("odds below", x.erring(0, 0, Integer.MIN_VALUE, 0), Due.BEYOND);
        DUE.is("no such part", x.erring(0, 0, 0, 2), Due.BEYOND);
        DUE.is("no such part", x.erring(0, 0, 0, -1), Due.BEYOND);
        Due.law(x, 0, "9999");
        DUE.is("most", x.erring(0, 0, 17, 0), 16 * 9999 + 1);
    }

    private static void wasIn() {
        FigureTill x = new FigureTill();
        DUE.is("how many pay 1", x.wasIn(0, 1, 0), 5);
        DUE.is("the first", x.wasIn(0, 1, 1), 100);
        DUE.is("none", x.wasIn(0, 9999, 0), 0);
        DUE.is("none", x.wasIn(0, 9999, 1), Due.NONE);
        x.till(1, 60);
        Due.law(x, 0, "k");
        DUE.is("of one", x.wasIn(1, 1, 0), 8);
        DUE.is("of two", x.wasIn(1, 2, 0), 36);
        DUE.is("of three", x.wasIn(1, 3, 0), 120);
        DUE.is("of none", x.wasIn(1, 0, 0), 0);
        DUE.is("of four", x.wasIn(1, 4, 0), 0);
        DUE.is("first of one", x.wasIn(1, 1, 1), 1);
        DUE.is("first of two", x.wasIn(1, 2, 1), 2);
        DUE.is("first of three", x.wasIn(1, 3, 1), 3);
        Due.law(x, 0, "(k=1)|(s=1997)");
        DUE.is("the first as a row", x.wasIn(1, 1, 1), 1);
        Due.law(x, 0, "(s=1)|(s=2)");
        DUE.is("thing 0 first", x.wasIn(1, 1, 1), 10000000);
        DUE.is("no such till", x.wasIn(4, 1, 0), Due.BEYOND);
        DUE.is("no such till", x.wasIn(-1, 1, 0), Due.BEYOND);
        DUE.is("paid below", x.wasIn(0, -1, 0), Due.BEYOND);
        DUE.is("paid above", x.wasIn(0, 10000, 0), Due.BEYOND);
        DUE.is("no such what", x.wasIn(0, 1, 2), Due.BEYOND);
        DUE.is("no such what", x.wasIn(0, 1, -1), Due.BEYOND);
    }

    private static void refused(FigureTill x, int sheet, int till, int due) {
        DUE.is("more", x.more(sheet, till, 4, 0), due);
        DUE.is("inTwo", x.inTwo(sheet, till), due);
        DUE.is("worth", x.worth(sheet, till, 0), due);
        DUE.is("dearer", x.dearer(sheet, till, 0), due);
        DUE.is("erring", x.erring(sheet, till, 0, 0), due);
        DUE.is("together", x.together(sheet, sheet, till), due);
    }

    private static void refusals() {
        FigureTill x = new FigureTill();
        Due.fill(x, 0, 0, 0, 10);
        Due.fill(x, 1, 9, 9, 9, 4);
        Due.fill(x, 3, 9, 9, 9, 9, -1);
        refused(x, 0, 0, Due.BEYOND);
        refused(x, 1, 0, Due.FULL);
        refused(x, 2, 0, Due.NONE);
        refused(x, 3, 0, Due.BEYOND);
        refused(x, 4, 0, Due.BEYOND);
        refused(x, -1, 0, Due.BEYOND);
        refused(x, 2, 4, Due.BEYOND);
        refused(x, 2, -1, Due.BEYOND);
        DUE.is("e above", x.more(2, 0, 5, 0), Due.BEYOND);
        DUE.is("e below", x.more(2, 0, -1, 0), Due.BEYOND);
        DUE.is("what above", x.more(2, 0, 0, 8), Due.BEYOND);
        DUE.is("what below", x.more(2, 0, 0, -3), Due.BEYOND);
        DUE.is("e above", x.dearer(2, 0, 3), Due.BEYOND);
        DUE.is("odds above", x.erring(2, 0, 17 * 17, 0), Due.BEYOND);
        DUE.is("part above", x.erring(2, 0, 0, 2), Due.BEYOND);
        DUE.is("told NONE", x.told(2), 6);
        DUE.is("told FULL", x.told(4), 6);
    }
}
