/** The edges of what is cheaper: term 3 and promises 17 to 24, a test for each sentence. */
public final class EdgesCheaperTest {
    private static final Due DUE = new Due();
    private static final int[] NONE_MORE = new int[8];

    public static void main(String[] args) {
        moreByNoneToFour();
        moreToThirtyThings();
        moreToNineOfEach();
        moreWithoutStock();
        moreOfNothing();
        fewestThingsThenLeastRow();
        valuesOfWhatIsMoreAlone();
        inTwoOfTwelve();
        inTwoOneMayHaveNothing();
        inTwoEachParting();
        togetherToThirty();
        togetherOfTenOrMore();
        togetherWithNothing();
        worthOfTheTenth();
        worthOfTheThirtieth();
        worthOfEachThing();
        dearerByNoneToNine();
        dearerAtTheMostPrice();
        dearerLeastOfSeveral();
        dearerByNoneToTwoMore();
        allByNine();
        leastOfOneToThreeThings();
        oddsOfSixteen();
        neverBelowNothing();
        lowestTerms();
        wasInOneToThreeThings();
        wasInOfWhatIsPaid();
        wasInTheFirst();
        DUE.end();
    }

    private static FigureTill told(String pays, String values) {
        FigureTill x = new FigureTill();
        x.till(0, 60);
        Due.law(x, 0, pays);
        Due.law(x, 1, values);
        return x;
    }

    private static void more(FigureTill x, int e, int paid, int net, int[] row) {
        DUE.is("by " + e + " PAYS", x.more(0, 0, e, -1), paid);
        DUE.is("by " + e + " NET", x.more(0, 0, e, -2), net);
        for (int i = 0; i < 8; i++) {
            DUE.is("by " + e + ", of THING " + i, x.more(0, 0, e, i), row[i]);
        }
    }

    /** "MORE by e (0 .. 4)", "e things more at most". */
    private static void moreByNoneToFour() {
        FigureTill x = told("99-k", "0");
        Due.fill(x, 0, 1);
        for (int e = 0; e <= 4; e++) {
            more(x, e, 98 - e, 98 - e, new int[] {0, 0, 0, 0, 0, 0, 0, e});
        }
        DUE.is("by five", x.more(0, 0, 5, -1), Due.BEYOND);
        DUE.is("by one less than none", x.more(0, 0, -1, -1), Due.BEYOND);
        DUE.is("what -3", x.more(0, 0, 0, -3), Due.BEYOND);
        DUE.is("what 8", x.more(0, 0, 0, 8), Due.BEYOND);
    }

    /** "30 things at most". */
    private static void moreToThirtyThings() {
        FigureTill x = told("99-k", "0");
        for (int many = 25; many <= 30; many++) {
            Due.fill(x, 0, 9, 9, 7, many - 25);
            int more = Math.min(4, 30 - many);
            more(x, 4, 99 - many - more, 99 - many - more, new int[] {0, 0, 0, 0, 0, 0, 0, more});
        }
        Due.fill(x, 0, 9, 9, 7, 6);
        DUE.is("of 31", x.more(0, 0, 0, -1), Due.FULL);
    }

    /** "9 of each at most". */
    private static void moreToNineOfEach() {
        FigureTill x = told("99-k", "0");
        for (int has = 4; has <= 9; has++) {
            Due.fill(x, 0, 0, 0, 0, 0, 0, 0, 0, has);
            int more = Math.min(4, 9 - has);
            more(x, 4, 95 - has, 95 - has, new int[] {0, 0, 0, 0, 0, 0, 4 - more, more});
        }
        Due.law(x, 1, "(t=0)*99");
        for (int has = 4; has <= 9; has++) {
            Due.fill(x, 0, has);
            int more = Math.min(4, 9 - has);
            more(x, 4, 95 - has, 95 - has - 99 * more, new int[] {more, 0, 0, 0, 0, 0, 0, 4 - more});
        }
    }

    /** "(STOCK doesn't matter)". */
    private static void moreWithoutStock() {
        FigureTill x = new FigureTill();
        Due.fill(x, 0, 0, 0, 1);
        for (int i = 0; i < 8; i++) {
            x.thing(i, 2, 0);
        }
        more(x, 1, 2, 2, new int[] {1, 0, 0, 0, 0, 0, 0, 0});
        DUE.is("dearer", x.dearer(0, 0, 2), 8);
        DUE.is("worth", x.worth(0, 0, 0), 8);
        DUE.is("in two", x.inTwo(0, 0), 10);
        DUE.is("together", x.together(0, 0, 0), 9);
        DUE.is("nines", x.nines(0), 1);
        DUE.is("was in", x.wasIn(0, 1, 0), 5);
        DUE.is("erring", x.erring(0, 0, 0, 0), 10);
    }

    /** A BASKET of nothing pays 0, and may be left so. */
    private static void moreOfNothing() {
        FigureTill x = new FigureTill();
        x.sheet(0, 8, 0);
        more(x, 4, 0, 0, NONE_MORE);
        Due.law(x, 1, "(t=5)*2");
        more(x, 1, 1, -1, new int[] {0, 0, 0, 0, 0, 1, 0, 0});
        more(x, 4, 4, -4, new int[] {0, 0, 0, 0, 0, 4, 0, 0});
        Due.law(x, 1, "t=5");
        more(x, 4, 0, 0, NONE_MORE);
    }

    /** "of several that with fewest things more, then the least as a row of eight". */
    private static void fewestThingsThenLeastRow() {
        FigureTill x = told("(k>1)*5", "0");
        Due.fill(x, 0, 0, 2);
        more(x, 4, 5, 5, NONE_MORE);
        Due.law(x, 0, "9-(k>2)");
        more(x, 4, 8, 8, new int[] {0, 0, 0, 0, 0, 0, 0, 1});
        Due.law(x, 0, "9-(k>4)");
        more(x, 2, 9, 9, NONE_MORE);
        more(x, 3, 8, 8, new int[] {0, 0, 0, 0, 0, 0, 0, 3});
        // one of THING 0 comes to as much as two of THING 7, whose row is less
        Due.law(x, 0, "9-(s=18+5)");
        x.thing(0, 0, 5);
        x.thing(7, 0, 9999);
        x.thing(2, 0, 2);
        x.thing(3, 0, 3);
        more(x, 2, 8, 8, new int[] {1, 0, 0, 0, 0, 0, 0, 0});
        x.thing(0, 0, 4);
        more(x, 2, 8, 8, new int[] {0, 0, 1, 1, 0, 0, 0, 0});
        x.thing(6, 0, 3);
        more(x, 2, 8, 8, new int[] {0, 0, 1, 0, 0, 0, 1, 0});
        x.thing(7, 0, 5);
        more(x, 2, 8, 8, new int[] {0, 0, 0, 0, 0, 0, 0, 1});
    }

    /** "what it PAYS, less VALUES of what is more". */
    private static void valuesOfWhatIsMoreAlone() {
        FigureTill x = told("50", "(t=3)*9");
        Due.fill(x, 0, 0, 0, 0, 6);
        more(x, 0, 50, 50, NONE_MORE);
        more(x, 3, 50, 23, new int[] {0, 0, 0, 3, 0, 0, 0, 0});
        more(x, 4, 50, 23, new int[] {0, 0, 0, 3, 0, 0, 0, 0});
        Due.law(x, 1, "99");
        more(x, 4, 50, 50 - 4 * 99, new int[] {0, 0, 0, 0, 0, 0, 0, 4});
    }

    /** "IN TWO (of 12 things at most)". */
    private static void inTwoOfTwelve() {
        FigureTill x = told("k*k", "0");
        int[][] twelve = {{9, 3}, {0, 0, 0, 0, 0, 0, 3, 9}, {2, 2, 2, 2, 1, 1, 1, 1}};
        for (int[] row : twelve) {
            Due.fill(x, 0, row);
            DUE.is("twelve", x.inTwo(0, 0), 72);
            x.put(0, 0, row[0] == 9 ? 8 : row[0] + 1);
            DUE.is("eleven, or thirteen", x.inTwo(0, 0), row[0] == 9 ? 25 + 36 : Due.FULL);
        }
    }

    /** "(one may have nothing)", which pays 0. */
    private static void inTwoOneMayHaveNothing() {
        FigureTill x = told("7", "0");
        x.sheet(0, 8, 0);
        DUE.is("of nothing", x.inTwo(0, 0), 0);
        Due.fill(x, 0, 0, 0, 0, 0, 0, 0, 0, 1);
        DUE.is("of one thing", x.inTwo(0, 0), 7);
        Due.fill(x, 0, 2, 2);
        DUE.is("of four", x.inTwo(0, 0), 7);
        Due.law(x, 0, "9-k");
        DUE.is("of four, together", x.inTwo(0, 0), 5);
        Due.law(x, 0, "k>1");
        DUE.is("of four: one or both have more than one", x.inTwo(0, 0), 1);
        Due.fill(x, 0, 1, 1);
        DUE.is("of two: none has", x.inTwo(0, 0), 0);
    }

    private static void inTwoEachParting() {
        // what the dear part must have, for it to pay: of each THING some, and not all
        FigureTill x = told("20-(s=4321)*20", "0");
        int[] prices = {1, 10, 100, 1000};
        for (int i = 0; i < 4; i++) {
            x.thing(i, 0, prices[i]);
        }
        Due.fill(x, 0, 2, 3, 3, 4);
        DUE.is("that part, and the rest", x.inTwo(0, 0), 20);
        Due.fill(x, 0, 1, 2, 3, 4);
        DUE.is("that part, and nothing", x.inTwo(0, 0), 0);
        Due.fill(x, 0, 0, 3, 3, 4);
        DUE.is("no such part", x.inTwo(0, 0), 20);
        Due.law(x, 0, "20-(s=2010)*15-(s=321)*17");
        Due.fill(x, 0, 1, 3, 3, 2);
        DUE.is("both parts", x.inTwo(0, 0), 8);
    }

    /** "(30 things at most)", "FULL: either is above 30, or both are". */
    private static void togetherToThirty() {
        FigureTill x = told("k", "0");
        Due.fill(x, 0, 9, 9, 9, 2);
        Due.fill(x, 1, 1);
        DUE.is("29 and 1", x.together(0, 1, 0), 0);
        x.put(1, 0, 2);
        DUE.is("29 and 2", x.together(0, 1, 0), Due.FULL);
        x.put(1, 0, 0);
        x.put(0, 3, 3);
        DUE.is("30 and nothing", x.together(0, 1, 0), 0);
        DUE.is("nothing and 30", x.together(1, 0, 0), 0);
        x.put(0, 3, 4);
        DUE.is("31 and nothing", x.together(0, 1, 0), Due.FULL);
        DUE.is("nothing and 31", x.together(1, 0, 0), Due.FULL);
        Due.fill(x, 0, 9, 6);
        DUE.is("15 twice", x.together(0, 0, 0), 0);
        Due.fill(x, 0, 9, 7);
        DUE.is("16 twice", x.together(0, 0, 0), Due.FULL);
    }

    /** "one would have more than 9 of a THING doesn't matter". */
    private static void togetherOfTenOrMore() {
        FigureTill x = told("(s=18*999)*50+k", "0");
        Due.fill(x, 0, 0, 0, 0, 0, 0, 0, 0, 9);
        Due.fill(x, 1, 0, 0, 0, 0, 0, 0, 0, 1);
        DUE.is("9 and 1", x.together(0, 1, 0), 0);
        DUE.is("9 and 9", x.together(0, 0, 0), -50);
        x.put(1, 7, 10);
        DUE.is("10 in one of them", x.together(0, 1, 0), Due.BEYOND);
    }

    /** Nothing pays 0, alone and with something. */
    private static void togetherWithNothing() {
        FigureTill x = told("7", "0");
        x.sheet(0, 8, 0);
        Due.fill(x, 1, 1);
        DUE.is("nothing twice", x.together(0, 0, 0), 0);
        DUE.is("nothing and something", x.together(0, 1, 0), 0);
        DUE.is("something twice", x.together(1, 1, 0), 7);
    }

    /** "(there may be ten of it then)". */
    private static void worthOfTheTenth() {
        FigureTill x = told("s", "0");
        for (int thing = 0; thing < 8; thing++) {
            x.thing(thing, 0, 100 + thing);
            int[] row = new int[8];
            row[thing] = 9;
            Due.fill(x, 0, row);
            DUE.is("a tenth of THING " + thing, x.worth(0, 0, thing), -100 - thing);
        }
    }

    /** "FULL: above 29 things". */
    private static void worthOfTheThirtieth() {
        FigureTill x = told("k*k", "0");
        Due.fill(x, 0, 9, 9, 9, 1);
        DUE.is("a twenty-ninth", x.worth(0, 0, 7), 28 * 28 - 29 * 29);
        x.put(0, 3, 2);
        DUE.is("a thirtieth", x.worth(0, 0, 7), 29 * 29 - 30 * 30);
        x.put(0, 3, 3);
        DUE.is("a thirty-first", x.worth(0, 0, 7), Due.FULL);
        x.sheet(0, 8, 0);
        DUE.is("a first", x.worth(0, 0, 7), -1);
    }

    private static void worthOfEachThing() {
        // 20, 28, 38, 39, 118, 119, 269, 1018
        int[] due = {10 - 2, 10 - 10, 10 - 11, 10 - 12, 10 - 10, 10 - 11, 10 - 17, 10 - 10};
        FigureTill x = new FigureTill();
        Due.fill(x, 0, 0, 0, 1);
        for (int thing = 0; thing < 8; thing++) {
            DUE.is("worth of THING " + thing, x.worth(0, 0, thing), due[thing]);
        }
        DUE.is("THING 8", x.worth(0, 0, 8), Due.BEYOND);
        DUE.is("THING -1", x.worth(0, 0, -1), Due.BEYOND);
    }

    /** "PRICES 0 .. 9 more for one of them", "10 times the THING, and how much more". */
    private static void dearerByNoneToNine() {
        for (int thing = 0; thing < 8; thing++) {
            FigureTill x = told("s", "0");
            int[] row = new int[8];
            row[thing] = 1;
            Due.fill(x, 0, row);
            DUE.is("9 more of THING " + thing, x.dearer(0, 0, 0), 10 * thing + 9);
            Due.law(x, 0, "9999-s");
            DUE.is("none more is best", x.dearer(0, 0, 0), 0);
        }
        FigureTill x = told("s", "0");
        x.sheet(0, 8, 0);
        DUE.is("nothing is dearer", x.dearer(0, 0, 2), 0);
    }

    /** "(9999 at most)". */
    private static void dearerAtTheMostPrice() {
        for (int price = 9988; price <= 9999; price++) {
            FigureTill x = told("s-5000", "0");
            x.thing(7, 0, price);
            Due.fill(x, 0, 0, 0, 0, 0, 0, 0, 0, 1);
            int more = Math.min(9, 9999 - price);
            DUE.is("of " + price, x.dearer(0, 0, 0), more == 0 ? 0 : 70 + more);
            DUE.is("the PRICE stays", x.thingIs(7, 0), price);
        }
    }

    /** "of several the least": 0 if nothing is better than as it is. */
    private static void dearerLeastOfSeveral() {
        FigureTill x = told("5", "0");
        Due.fill(x, 0, 1, 1);
        DUE.is("all alike", x.dearer(0, 0, 0), 0);
        Due.law(x, 0, "5+(s>12)");
        DUE.is("by 3 more or above, of either", x.dearer(0, 0, 0), 3);
        Due.fill(x, 0, 0, 1, 0, 0, 0, 0, 2);
        Due.law(x, 0, "5+(s>510)");
        DUE.is("by 2 of THING 1, by 1 of THING 6", x.dearer(0, 0, 0), 12);
        Due.law(x, 0, "5+(s>509+2)+(s=509+18)");
        DUE.is("by 9 of THING 6 alone", x.dearer(0, 0, 0), 69);
    }

    /** "DEARER, by e (0 .. 2)". */
    private static void dearerByNoneToTwoMore() {
        FigureTill x = new FigureTill();
        Due.fill(x, 0, 0, 0, 1);
        DUE.is("by none", x.dearer(0, 0, 0), 0);
        DUE.is("by one", x.dearer(0, 0, 1), 8);
        DUE.is("by two", x.dearer(0, 0, 2), 8);
        DUE.is("by three", x.dearer(0, 0, 3), Due.BEYOND);
        DUE.is("by one less than none", x.dearer(0, 0, -1), Due.BEYOND);
        Due.fill(x, 0, 9, 9, 9, 3);
        DUE.is("of thirty things none more", x.dearer(0, 0, 2), x.dearer(0, 0, 0));
        x.put(0, 3, 4);
        DUE.is("of thirty-one", x.dearer(0, 0, 0), Due.FULL);
    }

    /** "whether all PRICES are by nine". */
    private static void allByNine() {
        FigureTill x = new FigureTill();
        x.thing(7, 0, 1000);
        for (int i = 0; i < 8; i++) {
            DUE.is("THING " + i + " isn't", x.nines(-1), 0);
            x.thing(i, 0, i % 2 == 0 ? 9 : 9999);
        }
        DUE.is("all are", x.nines(-1), 1);
        for (int i = 0; i < 8; i++) {
            int was = x.thing(i, 0, 9998);
            DUE.is("THING " + i + " is 9998", x.nines(-1), 0);
            x.thing(i, 0, was);
            x.thing(i, 1, 1);
            x.thing(i, 2, 1);
        }
        DUE.is("COST and STOCK don't matter", x.nines(-1), 1);
        DUE.is("till -2", x.nines(-2), Due.BEYOND);
        DUE.is("till 4", x.nines(4), Due.BEYOND);
    }

    /** "the least that any BASKET of 1 .. 3 things PAYS at a till". */
    private static void leastOfOneToThreeThings() {
        FigureTill x = told("k*100", "0");
        DUE.is("one thing, not none", x.nines(0), 100);
        Due.law(x, 0, "900-k*100");
        DUE.is("three things, not four", x.nines(0), 600);
        Due.law(x, 0, "900-(k=2)*100");
        DUE.is("two things", x.nines(0), 800);
        for (int thing = 0; thing < 8; thing++) {
            int sum = 3 * x.thingIs(thing, 0);
            Due.law(x, 0, "900-(k=3)*(s=" + sum + ")");
            DUE.is("three of THING " + thing, x.nines(0), 899);
        }
        Due.law(x, 0, "9999");
        DUE.is("the most", x.nines(0), 9999);
        Due.law(x, 0, "0");
        DUE.is("nothing", x.nines(0), 0);
        DUE.is("at the last till", x.nines(3), 1);
    }

    private static void erring(FigureTill x, int odds, long above, long below) {
        DUE.is("odds " + odds + ", above", x.erring(0, 0, odds, 0), above);
        DUE.is("odds " + odds + ", below", x.erring(0, 0, odds, 1), below);
    }

    /** "odds 17 times u, and v", "(u, v 0 .. 16, 16 at most together)". */
    private static void oddsOfSixteen() {
        FigureTill x = told("7", "0");
        Due.fill(x, 0, 1);
        erring(x, 0, 7, 1);
        erring(x, 1, 16 * 7 - 1, 16);
        erring(x, 16, 6, 1);
        erring(x, 17, 16 * 7 + 1, 16);
        erring(x, 17 * 16, 8, 1);
        erring(x, 17 * 8 + 8, 7, 1);
        erring(x, 17 * 15 + 1, 8 * 7 + 7, 8);
        for (int u = 1; u <= 16; u++) {
            // v is 16 - u, and one above
            int most = 17 * u + 16 - u;
            DUE.is("16 together", x.erring(0, 0, most, 0) > 0 ? 1 : 0, 1);
            DUE.is("17 together", x.erring(0, 0, most + 1, 0), Due.BEYOND);
        }
        DUE.is("u 17", x.erring(0, 0, 17 * 17, 0), Due.BEYOND);
        DUE.is("below 0", x.erring(0, 0, -1, 0), Due.BEYOND);
        DUE.is("part 2", x.erring(0, 0, 0, 2), Due.BEYOND);
        DUE.is("part -1", x.erring(0, 0, 0, -1), Due.BEYOND);
    }

    /** "never below 0; for nothing, k 0, it is 0". */
    private static void neverBelowNothing() {
        FigureTill x = told("0", "0");
        Due.fill(x, 0, 1);
        erring(x, 16, 0, 1);
        erring(x, 17 * 3 + 13, 3, 16);
        erring(x, 17 * 16, 1, 1);
        Due.law(x, 0, "1");
        erring(x, 16, 0, 1);
        erring(x, 15, 1, 16);
        erring(x, 17 + 15, 1, 8);
        Due.law(x, 0, "2");
        erring(x, 16, 1, 1);
        x.sheet(0, 8, 0);
        erring(x, 0, 0, 1);
        erring(x, 16, 0, 1);
        erring(x, 17 * 16, 0, 1);
        erring(x, 17 * 8 + 8, 0, 1);
    }

    /** "as a fraction in lowest terms (0 is 0 by 1)". */
    private static void lowestTerms() {
        FigureTill x = told("9999", "0");
        Due.fill(x, 0, 1);
        int[] below = {1, 16, 8, 16, 4, 16, 8, 16, 2, 16, 8, 16, 4, 16, 8, 16, 1};
        for (int u = 0; u <= 16; u++) {
            erring(x, 17 * u, (16 * 9999 + u) / (16 / below[u]), below[u]);
        }
        erring(x, 17 * 16, 10000, 1);
    }

    /** "BASKETS of 1 .. 3 things". */
    private static void wasInOneToThreeThings() {
        FigureTill x = told("k", "0");
        int[] many = {0, 8, 36, 120, 0};
        for (int k = 0; k <= 4; k++) {
            DUE.is("of " + k, x.wasIn(0, k, 0), many[k]);
        }
        DUE.is("of none", x.wasIn(0, 0, 1), Due.NONE);
        DUE.is("of one", x.wasIn(0, 1, 1), 1);
        DUE.is("of two", x.wasIn(0, 2, 1), 2);
        DUE.is("of three", x.wasIn(0, 3, 1), 3);
        DUE.is("of four", x.wasIn(0, 4, 1), Due.NONE);
    }

    /** "paid (0 .. 9999)"; "NONE: there is none (what 1)". */
    private static void wasInOfWhatIsPaid() {
        FigureTill x = told("0", "0");
        DUE.is("0", x.wasIn(0, 0, 0), 164);
        DUE.is("the first", x.wasIn(0, 0, 1), 1);
        DUE.is("9999: how many", x.wasIn(0, 9999, 0), 0);
        DUE.is("no ERROR", x.told(2), 0);
        DUE.is("9999: there is none", x.wasIn(0, 9999, 1), Due.NONE);
        Due.law(x, 0, "s+9998");
        DUE.is("9999", x.wasIn(0, 9999, 0), 164);
        DUE.is("the first", x.wasIn(0, 9999, 1), 1);
        DUE.is("10000 is BEYOND, though more would be asked", x.wasIn(0, 10000, 0), Due.BEYOND);
        DUE.is("-1", x.wasIn(0, -1, 0), Due.BEYOND);
        DUE.is("what 2", x.wasIn(0, 0, 2), Due.BEYOND);
        DUE.is("what -1", x.wasIn(0, 0, -1), Due.BEYOND);
        DUE.is("till 4", x.wasIn(4, 0, 0), Due.BEYOND);
        DUE.is("till -1", x.wasIn(-1, 0, 0), Due.BEYOND);
    }

    /** "the first as a row of eight, told as a number: eight figures, that of THING 0 first". */
    private static void wasInTheFirst() {
        FigureTill x = told("0", "0");
        int place = 10000000;
        for (int thing = 0; thing < 8; thing++) {
            x.thing(thing, 0, 1 + thing * thing * thing);
        }
        for (int thing = 0; thing < 8; thing++) {
            int price = x.thingIs(thing, 0);
            Due.law(x, 0, "(k=3)*(s=3*" + price + ")");
            DUE.is("three of THING " + thing, x.wasIn(0, 1, 1), 3 * place);
            Due.law(x, 0, "(k=1)*(s=" + price + ")");
            DUE.is("one of THING " + thing, x.wasIn(0, 1, 1), place);
            place /= 10;
        }
        Due.law(x, 0, "(k=1)*(s<10)");
        DUE.is("of THINGS 0, 1, 2 the last", x.wasIn(0, 1, 1), 100000);
    }
}
