/** The edges of BASKETS, GOES and DRAWS: terms 1, 3 and promises 12 to 16, a test for each sentence. */
public final class EdgesGoesTest {
    private static final Due DUE = new Due();
    private static final int MOST_MONEY = 99999999;

    public static void main(String[] args) {
        noneToNineOfEach();
        numbersThatLack();
        moreNumbersDontMatter();
        thirtyThings();
        greatestSumAndCost();
        numbersBySheetsOfFewBits();
        nothingPaysAndGoes();
        allTheStock();
        aGoChangesThat();
        goesHeld();
        costsHeld();
        oneToSixtyBuyers();
        buyersAgainstStock();
        anyZ();
        zIsToldNotCounted();
        DUE.end();
    }

    /** "(0 .. 9 each)": of the first THING as of the last. */
    private static void noneToNineOfEach() {
        int[] prices = {1, 9, 19, 20, 99, 100, 250, 999};
        for (int thing = 0; thing < 8; thing++) {
            FigureTill x = new FigureTill();
            x.thing(thing, 1, 11);
            x.sheet(0, 8, 8);
            for (int n = -1; n <= 10; n++) {
                x.put(0, thing, n);
                boolean right = n >= 0 && n <= 9;
                DUE.is(n + " of THING " + thing, x.basket(0, 0), right ? n : Due.BEYOND);
                DUE.is("SUM", x.basket(0, 1), right ? n * prices[thing] : Due.BEYOND);
                DUE.is("COST", x.basket(0, 2), right ? n * 11 : Due.BEYOND);
            }
        }
    }

    /** "numbers that lack are 0". */
    private static void numbersThatLack() {
        for (int n = 0; n <= 8; n++) {
            FigureTill x = new FigureTill();
            x.sheet(3, 16, n);
            for (int i = 0; i < n; i++) {
                x.put(3, i, 2);
            }
            DUE.is("things of " + n + " numbers", x.basket(3, 0), 2 * n);
        }
    }

    /** "more don't matter": whatever they are. */
    private static void moreNumbersDontMatter() {
        int[] numbers = {-1, 10, Integer.MIN_VALUE, Integer.MAX_VALUE, 9, 9};
        FigureTill x = new FigureTill();
        x.sheet(0, 32, 24);
        x.put(0, 7, 1);
        for (int i = 8; i < 24; i++) {
            x.put(0, i, numbers[i % numbers.length]);
        }
        DUE.is("things", x.basket(0, 0), 1);
        DUE.is("pays", x.pays(0, 0), 27);
        DUE.is("in two", x.inTwo(0, 0), 27);
        DUE.is("go", x.go(0, 0), 27);
        x.put(0, 7, 10);
        DUE.is("the eighth does", x.basket(0, 0), Due.BEYOND);
    }

    /** "30 things at most". */
    private static void thirtyThings() {
        int[][] rows = {{9, 9, 9, 3}, {0, 0, 0, 0, 3, 9, 9, 9}, {4, 4, 4, 4, 4, 4, 3, 3}};
        int[] room = {3, 4, 7};
        for (int i = 0; i < rows.length; i++) {
            FigureTill x = new FigureTill();
            Due.fill(x, 0, rows[i]);
            DUE.is("thirty", x.basket(0, 0), 30);
            DUE.is("they pay", x.pays(0, 0), x.asks(0, x.basket(0, 1), 30));
            DUE.is("they go", x.go(0, 0), x.pays(0, 0));
            x.put(0, room[i], rows[i][room[i]] + 1);
            DUE.is("thirty-one", x.basket(0, 0), Due.FULL);
            DUE.is("they don't pay", x.pays(0, 0), Due.FULL);
            DUE.is("they don't go", x.go(0, 0), Due.FULL);
        }
    }

    private static void greatestSumAndCost() {
        FigureTill x = new FigureTill();
        for (int i = 0; i < 8; i++) {
            x.thing(i, 0, 9999);
            x.thing(i, 1, 9999);
        }
        Due.fill(x, 0, 9, 9, 9, 3);
        DUE.is("SUM", x.basket(0, 1), 299970);
        DUE.is("COST", x.basket(0, 2), 299970);
        DUE.is("pays", x.pays(0, 0), 36);
        x.till(3, 69);
        Due.law(x, 0, "s");
        DUE.is("held", x.pays(0, 3), 9999);
    }

    /** "rows of 8, 16, 32 bits", a number being v's lowest ones. */
    private static void numbersBySheetsOfFewBits() {
        int[] bits = {8, 16, 32};
        int[] wraps = {1 << 8, 1 << 16, 0};
        for (int i = 0; i < 3; i++) {
            FigureTill x = new FigureTill();
            x.sheet(0, bits[i], 8);
            x.put(0, 7, 9 + wraps[i]);
            DUE.is("9, wrapped", x.basket(0, 0), 9);
            x.put(0, 7, 9 - wraps[i]);
            DUE.is("9, wrapped from below", x.basket(0, 0), 9);
            x.put(0, 7, 10 + wraps[i]);
            DUE.is("10, wrapped", x.basket(0, 0), Due.BEYOND);
            x.put(0, 7, wraps[i] - 1);
            DUE.is("all bits", x.basket(0, 0), Due.BEYOND);
            x.put(0, 7, Integer.MIN_VALUE);
            DUE.is("the bit on top", x.basket(0, 0), bits[i] < 32 ? 0 : Due.BEYOND);
        }
        FigureTill x = new FigureTill();
        x.sheet(0, 32, 8);
        x.put(0, 0, 256 + 9);
        DUE.is("32 bits hold it", x.basket(0, 0), Due.BEYOND);
        x.put(0, 0, 65536 + 9);
        DUE.is("32 bits hold it", x.basket(0, 0), Due.BEYOND);
        x.sheet(0, 16, 8);
        x.put(0, 0, 256 + 9);
        DUE.is("16 bits hold it", x.basket(0, 0), Due.BEYOND);
    }

    /** A BASKET of nothing is one: it needs no STOCK, and is a GO that pays 0. */
    private static void nothingPaysAndGoes() {
        FigureTill x = new FigureTill();
        for (int i = 0; i < 8; i++) {
            x.thing(i, 2, 0);
            x.thing(i, 1, 9999);
        }
        x.till(0, 59);
        x.sheet(0, 8, 0);
        x.sheet(1, 32, 24);
        for (int sheet = 0; sheet < 2; sheet++) {
            DUE.is("no things", x.basket(sheet, 0), 0);
            DUE.is("no SUM", x.basket(sheet, 1), 0);
            DUE.is("no COST", x.basket(sheet, 2), 0);
            DUE.is("pays", x.pays(sheet, 0), 0);
            DUE.is("goes", x.go(sheet, 0), 0);
            DUE.is("GOES", x.count(0), sheet + 1);
        }
        DUE.is("TAKINGS", x.count(1), 0);
        DUE.is("COSTS", x.count(2), 0);
        DUE.is("STOCK", x.count(3), 0);
    }

    /** "STATE: there is less STOCK than is asked for": as much is enough, of each THING. */
    private static void allTheStock() {
        for (int thing = 0; thing < 8; thing++) {
            for (int n = 1; n <= 9; n += 4) {
                FigureTill x = new FigureTill();
                x.sheet(0, 8, 8);
                x.put(0, thing, n);
                x.thing(thing, 2, n - 1);
                DUE.is("one less", x.go(0, 0), Due.STATE);
                DUE.is("GOES", x.count(0), 0);
                DUE.is("STOCK stays", x.thingIs(thing, 2), n - 1);
                x.thing(thing, 2, n);
                DUE.is("as much", x.go(0, 0), x.pays(0, 0));
                DUE.is("GOES", x.count(0), 1);
                DUE.is("none is left", x.thingIs(thing, 2), 0);
                DUE.is("no more", x.go(0, 0), Due.STATE);
                x.thing(thing, 2, 99);
                DUE.is("of the most", x.go(0, 0), x.pays(0, 0));
                DUE.is("what is left", x.thingIs(thing, 2), 99 - n);
                DUE.is("told STATE", x.told(3), 2);
            }
        }
    }

    /** "STOCK is less, TAKINGS, COSTS, GOES are more". */
    private static void aGoChangesThat() {
        FigureTill x = new FigureTill();
        Due.fill(x, 0, 1, 2, 0, 0, 0, 0, 0, 3);
        x.thing(0, 1, 5);
        x.thing(7, 1, 70);
        DUE.is("3016", x.go(0, 0), 10);
        DUE.is("TAKINGS", x.count(1), 10);
        DUE.is("COSTS", x.count(2), 215);
        DUE.is("GOES", x.count(0), 1);
        DUE.is("STOCK", x.count(3), 66);
        int[] stock = {8, 7, 9, 9, 9, 9, 9, 6};
        for (int i = 0; i < 8; i++) {
            DUE.is("STOCK of " + i, x.thingIs(i, 2), stock[i]);
        }
        DUE.is("at a LAST till", x.till(2, 10), 0);
        DUE.is("it pays there", x.go(0, 2), 6);
        DUE.is("TAKINGS", x.count(1), 16);
        DUE.is("the BASKET stays", x.basket(0, 0), 6);
        DUE.is("z stays", x.count(7), 1);
    }

    /** Tills that ask 9999 for whatever it is. */
    private static FigureTill dearTills() {
        FigureTill x = new FigureTill();
        for (int i = 0; i < 4; i++) {
            x.till(i, 60);
        }
        Due.law(x, 0, "9999");
        return x;
    }

    /** Buyers come five times sixty, and so on, till there have been so many GOES, STOCK being made anew. */
    private static void manyGoes(FigureTill x, int most) {
        int goes = 0;
        for (int turn = 0; turn < 40 && goes < most; turn++) {
            for (int i = 0; i < 8; i++) {
                x.thing(i, 2, 99);
            }
            for (int i = 0; i < 5 && goes < most; i++) {
                goes += x.draws(Math.min(60, most - goes));
            }
        }
        DUE.is("GOES of the buyers", goes, most);
    }

    /** "TAKINGS (0 .. 99999999, no more than that is counted), GOES (0 .. 9999 likewise)". */
    private static void goesHeld() {
        FigureTill x = dearTills();
        manyGoes(x, 9998);
        x.thing(0, 2, 99);
        Due.fill(x, 0, 1);
        DUE.is("GOES, one less", x.count(0), 9998);
        DUE.is("TAKINGS, far from it", x.count(1), 9998 * 9999);
        DUE.is("one more", x.go(0, 0), 9999);
        DUE.is("GOES, the most", x.count(0), 9999);
        DUE.is("one more", x.go(0, 3), 9999);
        DUE.is("no more than that is counted", x.count(0), 9999);
        DUE.is("TAKINGS still are", x.count(1), 10000 * 9999);
        Due.law(x, 0, "9998");
        DUE.is("nearly all", x.go(0, 0), 9998);
        DUE.is("TAKINGS, one less", x.count(1), MOST_MONEY - 1);
        Due.law(x, 0, "1");
        DUE.is("a penny", x.go(0, 0), 1);
        DUE.is("TAKINGS, the most", x.count(1), MOST_MONEY);
        DUE.is("a penny more is paid", x.go(0, 0), 1);
        DUE.is("and not counted", x.count(1), MOST_MONEY);
        DUE.is("STOCK still is", x.thingIs(0, 2), 94);
        DUE.is("buyers still come", x.draws(1), 1);
        DUE.is("and are not counted", x.count(0), 9999);
    }

    private static FigureTill dearThings() {
        FigureTill x = new FigureTill();
        for (int i = 0; i < 8; i++) {
            x.thing(i, 1, 9999);
        }
        return x;
    }

    private static int costs(FigureTill x, int many, int cost) {
        x.thing(0, 2, 99);
        x.thing(0, 1, cost);
        x.put(0, 0, many);
        x.go(0, 0);
        return x.count(2);
    }

    /** "COSTS of all that was sold (0 .. 99999999)". */
    private static void costsHeld() {
        FigureTill x = dearThings();
        x.sheet(0, 8, 8);
        // a GO of buyers is of 4 things at most
        int turns = 0;
        while (x.count(2) < MOST_MONEY - 60 * 4 * 9999 && turns < 100) {
            for (int i = 0; i < 8 && turns % 5 == 0; i++) {
                x.thing(i, 2, 99);
            }
            x.draws(60);
            turns++;
        }
        while (MOST_MONEY - x.count(2) > 9 * 9999) {
            costs(x, 9, 9999);
        }
        while (MOST_MONEY - x.count(2) > 9999) {
            costs(x, 1, 9999);
        }
        int rest = MOST_MONEY - x.count(2);
        DUE.is("one less", costs(x, 1, rest - 1), MOST_MONEY - 1);
        DUE.is("the most", costs(x, 1, 1), MOST_MONEY);
        DUE.is("no more is counted", costs(x, 1, 1), MOST_MONEY);
        DUE.is("nor far more", costs(x, 9, 9999), MOST_MONEY);
    }

    /** "n (1 .. 60) buyers": each makes three draws, whether it is a GO or not. */
    private static void oneToSixtyBuyers() {
        for (int n : new int[] {1, 59, 60}) {
            FigureTill x = new FigureTill();
            FigureTill one = new FigureTill();
            int goes = 0;
            int z = 1;
            for (int i = 0; i < n; i++) {
                goes += one.draws(1);
                z = drawn(drawn(drawn(z)));
            }
            DUE.is("draws(" + n + ")", x.draws(n), goes);
            DUE.is("z", x.count(7), z);
            for (int what = 0; what < 8; what++) {
                DUE.is("count " + what, x.count(what), one.count(what));
            }
        }
        FigureTill x = new FigureTill();
        DUE.is("none", x.draws(0), Due.BEYOND);
        DUE.is("sixty-one", x.draws(61), Due.BEYOND);
        DUE.is("z stays", x.count(7), 1);
    }

    private static int drawn(int z) {
        return z * 1103515245 + 12345;
    }

    /** "that BASKET is a GO, if STOCK has it": as much is enough. */
    private static void buyersAgainstStock() {
        for (int seed = 1; seed <= 60; seed++) {
            int first = drawn(seed);
            int second = drawn(first);
            int third = drawn(second);
            int thing = (first >>> 8) % 8;
            int many = (second >>> 8) % 4 + 1;
            int till = (third >>> 8) % 4;
            FigureTill x = new FigureTill();
            for (int i = 0; i < 4; i++) {
                x.till(i, 60 + i);
            }
            Due.law(x, 0, "k*100+m*10+s%7");
            int price = x.thingIs(thing, 0);
            x.thing(thing, 2, many - 1);
            x.seed(seed);
            DUE.is("one less", x.draws(1), 0);
            DUE.is("STOCK stays", x.thingIs(thing, 2), many - 1);
            DUE.is("GOES stay", x.count(0), 0);
            DUE.is("z doesn't", x.seed(seed), third);
            x.thing(thing, 2, many);
            DUE.is("as much", x.draws(1), 1);
            DUE.is("none is left", x.thingIs(thing, 2), 0);
            DUE.is("paid at till " + till, x.count(1), many * 100 + till * 10 + many * price % 7);
            DUE.is("no ERROR", x.told(3), 0);
        }
        FigureTill x = new FigureTill();
        for (int i = 0; i < 8; i++) {
            x.thing(i, 2, 0);
        }
        DUE.is("no STOCK at all", x.draws(60), 0);
        DUE.is("no GOES", x.count(0), 0);
    }

    /** "gives z >>> 8": of a z below 0, too. */
    private static void anyZ() {
        int[] seeds = {0, -1, 1, Integer.MIN_VALUE, Integer.MAX_VALUE, 255, 256, -256, Due.BEYOND};
        for (int seed : seeds) {
            FigureTill x = new FigureTill();
            x.seed(seed);
            int first = drawn(seed);
            int second = drawn(first);
            int thing = (first >>> 8) % 8;
            int many = (second >>> 8) % 4 + 1;
            DUE.is("a buyer", x.draws(1), 1);
            DUE.is("of THING " + thing, x.thingIs(thing, 2), 9 - many);
            DUE.is("alone", x.count(3), 72 - many);
            DUE.is("z", x.count(7), drawn(second));
        }
    }

    /** "what it was (any number)": one like an ERROR is none. */
    private static void zIsToldNotCounted() {
        FigureTill x = new FigureTill();
        int was = 1;
        for (int k = 0; k <= 7; k++) {
            DUE.is("seed", x.seed(Due.LOW - k), was);
            was = Due.LOW - k;
            DUE.is("z", x.count(7), was);
        }
        for (int k = 1; k <= 6; k++) {
            DUE.is("told " + k, x.told(k), 0);
        }
    }
}
