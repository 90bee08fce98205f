/** The edges in term 1 and promises 1 to 8, a test for each sentence. */
public final class EdgesTillsTest {
    private static final Due DUE = new Due();
    private static final int[] LEAST = {1, 0, 0};
    private static final int[] MOST = {9999, 9999, 99};
    private static final int[] FIRST_PRICES = {1, 9, 19, 20, 99, 100, 250, 999};

    public static void main(String[] args) {
        newObjectsHoldNothingOfOthers();
        leastAndMostOfThings();
        thingTouchesOneNumber();
        eachKindAndM();
        asOneAboveAndOneUnder();
        figuresOfOneFigure();
        figuresOfTheGreatestSum();
        nothingPaysNothing();
        noSumPaysWhatTheKindSays();
        greatestSumAndMostThings();
        lastFigure();
        rootToOneFigure();
        errsCarries();
        otherToOneFigureOfItsBase();
        floorAboutItsM();
        toldWithoutText();
        heldBelowAndAbove();
        DUE.end();
    }

    /** "All as at first": of each object, whatever was done to another one. */
    private static void newObjectsHoldNothingOfOthers() {
        Twin.busy(new FigureTill());
        FigureTill x = new FigureTill();
        for (int i = 0; i < 8; i++) {
            DUE.is("price", x.thingIs(i, 0), FIRST_PRICES[i]);
            DUE.is("cost", x.thingIs(i, 1), 0);
            DUE.is("stock", x.thingIs(i, 2), 9);
            DUE.is("value", x.thingIs(i, 3), 0);
            DUE.is("count", x.count(i), i == 3 ? 72 : i == 7 ? 1 : 0);
        }
        for (int i = 0; i < 4; i++) {
            DUE.is("till", x.till(i, 0), 0);
            DUE.is("sheet", x.basket(i, 0), Due.NONE);
        }
        DUE.is("texts", x.untell(0) + x.untell(1), 0);
        DUE.is("no image", x.restore(), Due.NONE);
        DUE.is("the first image", x.image(), 1);
        int[] told = {0, 5, 0, 0, 0, 0};
        for (int k = 1; k <= 6; k++) {
            DUE.is("told " + k, x.told(k), told[k - 1]);
        }
    }

    /** "PRICE (1 .. 9999), COST 0 .. 9999, STOCK 0 .. 99": of the first THING as of the last. */
    private static void leastAndMostOfThings() {
        for (int thing = 0; thing < 8; thing++) {
            for (int what = 0; what < 3; what++) {
                FigureTill x = new FigureTill();
                int was = x.thingIs(thing, what);
                DUE.is("below the least", x.thing(thing, what, LEAST[what] - 1), Due.BEYOND);
                DUE.is("above the most", x.thing(thing, what, MOST[what] + 1), Due.BEYOND);
                DUE.is("the most", x.thing(thing, what, MOST[what]), was);
                DUE.is("above it", x.thing(thing, what, MOST[what] + 1), Due.BEYOND);
                DUE.is("the least", x.thing(thing, what, LEAST[what]), MOST[what]);
                DUE.is("below it", x.thing(thing, what, LEAST[what] - 1), Due.BEYOND);
                DUE.is("it stays", x.thingIs(thing, what), LEAST[what]);
            }
        }
    }

    private static void thingTouchesOneNumber() {
        for (int of = 0; of < 24; of++) {
            FigureTill x = new FigureTill();
            x.thing(of / 3, of % 3, 77);
            for (int other = 0; other < 24; other++) {
                int first = other % 3 == 0 ? FIRST_PRICES[other / 3] : other % 3 == 1 ? 0 : 9;
                DUE.is("number " + other, x.thingIs(other / 3, other % 3), other == of ? 77 : first);
            }
        }
    }

    /** "10 times the KIND, and m": 0 .. 69, of the first till as of the last. */
    private static void eachKindAndM() {
        for (int till = 0; till < 4; till++) {
            FigureTill x = new FigureTill();
            for (int km = 0; km < 70; km++) {
                DUE.is("km as it was", x.till(till, km), Math.max(0, km - 1));
                DUE.is("KIND", x.tillIs(till, 0), km / 10);
                DUE.is("m", x.tillIs(till, 1), km % 10);
                DUE.is("another till", x.tillIs(3 - till, 0) + x.tillIs(3 - till, 1), 0);
            }
            DUE.is("km 69, the last", x.till(till, 0), 69);
        }
    }

    /** "KIND: it is not of that KIND, nor of one under it". */
    private static void asOneAboveAndOneUnder() {
        FigureTill x = new FigureTill();
        x.till(0, 19);
        x.till(1, 58);
        x.till(2, 27);
        x.till(3, 46);
        DUE.is("LAST as TILL", x.as(0, 0), 9);
        DUE.is("LAST as LAST", x.as(0, 1), 9);
        DUE.is("LAST as FLOOR", x.as(0, 5), Due.KIND);
        DUE.is("FLOOR as LAST", x.as(1, 1), 8);
        DUE.is("FLOOR as TILL", x.as(1, 0), 8);
        DUE.is("ROOT as OTHER", x.as(2, 4), Due.KIND);
        DUE.is("OTHER as ROOT", x.as(3, 2), 6);
        DUE.is("OTHER as TILL", x.as(3, 0), 6);
        x.till(3, 0);
        DUE.is("TILL, m 0, as TILL", x.as(3, 0), 0);
        DUE.is("TILL as TOLD, the last KIND", x.as(3, 6), Due.KIND);
    }

    /** "FIGURES of a sum (0 on) in a base (2 .. 11)". */
    private static void figuresOfOneFigure() {
        FigureTill x = new FigureTill();
        for (int base = 2; base <= 11; base++) {
            DUE.is("of 0", x.figures(0, base), 0);
            DUE.is("the last of one figure", x.figures(base - 1, base), base - 1);
            DUE.is("the first of two", x.figures(base, base), 1);
            DUE.is("the last of two", x.figures(base * base - 1, base), 2 * (base - 1));
            DUE.is("the first of three", x.figures(base * base, base), 1);
        }
        DUE.is("below 0", x.figures(-1, 2), Due.BEYOND);
        DUE.is("base 1", x.figures(0, 1), Due.BEYOND);
        DUE.is("base 12", x.figures(0, 12), Due.BEYOND);
    }

    private static void figuresOfTheGreatestSum() {
        FigureTill x = new FigureTill();
        for (int base = 2; base <= 11; base++) {
            int b = base;
            int due = Integer.toString(Integer.MAX_VALUE, b).chars().map(c -> Character.digit(c, b)).sum();
            DUE.is("in base " + b, x.figures(Integer.MAX_VALUE, b), due);
        }
    }

    /** "Nothing (k 0) pays 0 at any till". */
    private static void nothingPaysNothing() {
        FigureTill x = new FigureTill();
        Due.law(x, 0, "5");
        x.sheet(0, 8, 0);
        for (int km = 0; km < 70; km++) {
            x.till(3, km);
            DUE.is("nothing, a sum told, at " + km, x.asks(3, 299970, 0), 0);
            DUE.is("nothing, no sum, at " + km, x.asks(3, 0, 0), 0);
            DUE.is("a BASKET of nothing at " + km, x.pays(0, 3), 0);
        }
    }

    /** A sum of 0 of one thing isn't nothing. */
    private static void noSumPaysWhatTheKindSays() {
        int[] kms = {9, 19, 29, 39, 49, 59, 69};
        int[] due = {0, 0, 0, 9, 0, 9, 8};
        FigureTill x = new FigureTill();
        Due.law(x, 0, "s+m-k");
        for (int i = 0; i < kms.length; i++) {
            x.till(0, kms[i]);
            DUE.is("no sum at " + kms[i], x.asks(0, 0, 1), due[i]);
        }
    }

    /** "a sum (0 .. 299970) of k (0 .. 30) things". */
    private static void greatestSumAndMostThings() {
        FigureTill x = new FigureTill();
        x.till(1, 60);
        Due.law(x, 0, "(s=9999*30)*k");
        DUE.is("the greatest sum, most things", x.asks(1, 299970, 30), 30);
        DUE.is("one thing", x.asks(1, 299970, 1), 1);
        DUE.is("a sum above", x.asks(1, 299971, 30), Due.BEYOND);
        DUE.is("a thing above", x.asks(1, 299970, 31), Due.BEYOND);
        DUE.is("a sum below", x.asks(1, -1, 1), Due.BEYOND);
        DUE.is("a thing below", x.asks(1, 0, -1), Due.BEYOND);
        DUE.is("at the last till", x.asks(3, 299970, 30), 36);
    }

    private static void lastFigure() {
        FigureTill x = new FigureTill();
        x.till(0, 10);
        int[] sums = {0, 9, 10, 19, 299969, 299970};
        for (int sum : sums) {
            DUE.is("of " + sum, x.asks(0, sum, 1), sum % 10);
        }
    }

    /** "till it is one figure". */
    private static void rootToOneFigure() {
        FigureTill x = new FigureTill();
        x.till(0, 20);
        int[] sums = {0, 9, 10, 18, 19, 99, 199, 289999, 299969, 299970};
        int[] due = {0, 9, 1, 9, 1, 9, 1, 1, 8, 9};
        for (int i = 0; i < sums.length; i++) {
            DUE.is("of " + sums[i], x.asks(0, sums[i], 1), due[i]);
        }
    }

    /** "as TILL of s+m". */
    private static void errsCarries() {
        FigureTill x = new FigureTill();
        x.till(0, 30);
        DUE.is("m 0", x.asks(0, 99, 1), 18);
        x.till(0, 31);
        DUE.is("9 and 1", x.asks(0, 9, 1), 1);
        DUE.is("99 and 1", x.asks(0, 99, 1), 1);
        x.till(0, 39);
        DUE.is("0 and 9", x.asks(0, 0, 1), 9);
        DUE.is("the greatest sum and 9", x.asks(0, 299970, 30), 45);
    }

    /** "till it is one figure of that base": in base 11 that may be 10. */
    private static void otherToOneFigureOfItsBase() {
        for (int m = 0; m <= 9; m++) {
            FigureTill x = new FigureTill();
            int base = m + 2;
            x.till(2, 40 + m);
            DUE.is("of 0", x.asks(2, 0, 1), 0);
            DUE.is("of its last figure", x.asks(2, base - 1, 1), base - 1);
            DUE.is("of its first two figures", x.asks(2, base, 1), 1);
            DUE.is("two figures that come to two", x.asks(2, 2 * base - 1, 1), 1);
            DUE.is("the last two figures", x.asks(2, base * base - 1, 1), base - 1);
        }
        FigureTill x = new FigureTill();
        x.till(2, 40);
        DUE.is("262143, 18, 2, 1 in twos", x.asks(2, 262143, 1), 1);
    }

    /** "as LAST, but m at least". */
    private static void floorAboutItsM() {
        for (int m = 0; m <= 9; m++) {
            FigureTill x = new FigureTill();
            x.till(1, 50 + m);
            for (int last = 0; last <= 9; last++) {
                DUE.is("m " + m + ", last figure " + last, x.asks(1, 90 + last, 1), Math.max(m, last));
            }
        }
    }

    /** "without a TEXT as TILL". */
    private static void toldWithoutText() {
        FigureTill x = new FigureTill();
        x.till(0, 69);
        DUE.is("never told", x.asks(0, 299970, 30), 36);
        Due.law(x, 1, "5");
        DUE.is("of the other USE", x.asks(0, 299970, 30), 36);
        Due.law(x, 0, "0");
        DUE.is("0 is a TEXT", x.asks(0, 299970, 30), 0);
        x.untell(0);
        DUE.is("untold", x.asks(0, 299970, 30), 36);
    }

    /** "(Held within 0 .. 9999.)" */
    private static void heldBelowAndAbove() {
        FigureTill x = new FigureTill();
        x.till(0, 60);
        Due.law(x, 0, "s");
        int[] sums = {0, 1, 9998, 9999, 10000, 299970};
        for (int sum : sums) {
            DUE.is("s " + sum, x.asks(0, sum, 1), Math.min(9999, sum));
        }
        Due.law(x, 0, "s-5");
        for (int sum = 0; sum <= 7; sum++) {
            DUE.is("s-5 of " + sum, x.asks(0, sum, 1), Math.max(0, sum - 5));
        }
        Due.law(x, 0, "8192*8192*32-1");
        DUE.is("the greatest int", x.asks(0, 1, 1), 9999);
        Due.law(x, 0, "8192*8192*32");
        DUE.is("the least int", x.asks(0, 1, 1), 0);
    }
}
