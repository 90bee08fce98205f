/** The edges of SHEETS, IMAGES and what is told: term 5 and promises 27 to 36, a test for each sentence. */
public final class EdgesSheetsTest {
    private static final Due DUE = new Due();
    private static final int MIN = Integer.MIN_VALUE;
    private static final int MAX = Integer.MAX_VALUE;
    private static final int[] BITS = {8, 16, 32};

    public static void main(String[] args) {
        noneToTwentyFourNumbers();
        missingWhateverN();
        anewAllNothing();
        lowestBits();
        pricesOnePenny();
        pricesToEightThings();
        pricesUpToWhatIsRefused();
        moveNone();
        moveAll();
        moveOverItself();
        moveToAnother();
        imageWithoutAndInPlace();
        imageOfAll();
        imageOfNothingMore();
        restoreAgain();
        tellTwentyFour();
        tellAnyNumber();
        checkEachPlace();
        checkNoneWaits();
        checkOneThing();
        countEach();
        toldEach();
        DUE.end();
    }

    /** "at most 24 numbers": of each bits, of the first SHEET as of the last. */
    private static void noneToTwentyFourNumbers() {
        for (int sheet = 0; sheet < 4; sheet++) {
            FigureTill x = new FigureTill();
            for (int bits : BITS) {
                for (int n : new int[] {0, 1, 23, 24}) {
                    DUE.is("n " + n, x.sheet(sheet, bits, n), 1);
                    DUE.is("the last number", x.put(sheet, n - 1, 1), n == 0 ? Due.BEYOND : 1);
                    DUE.is("behind it", x.put(sheet, n, 1), Due.BEYOND);
                    DUE.is("it isn't missing", x.prices(sheet), n == 1 ? 1 : 0);
                }
                DUE.is("n 25", x.sheet(sheet, bits, 25), Due.BEYOND);
                DUE.is("n -1", x.sheet(sheet, bits, -1), Due.STATE);
                DUE.is("24 are left", x.put(sheet, 23, 1), 1);
            }
        }
    }

    /** "0: it is missing, n doesn't matter". */
    private static void missingWhateverN() {
        for (int n : new int[] {0, 1, 24, 25, -1, MIN, MAX}) {
            FigureTill x = new FigureTill();
            Due.fill(x, 0, 1, 1);
            Due.fill(x, 1, 1, 1);
            DUE.is("sheet(0, 0, " + n + ")", x.sheet(0, 0, n), 1);
            DUE.is("put", x.put(0, 0, 1), Due.NONE);
            DUE.is("prices", x.prices(0), Due.NONE);
            DUE.is("move", x.move(0, 0, 1, 0, 0), Due.NONE);
            DUE.is("basket", x.basket(0, 0), Due.NONE);
            DUE.is("missing again", x.sheet(0, 0, n), 1);
            DUE.is("the next one isn't", x.basket(1, 0), 2);
            DUE.is("told STATE", x.told(3), 0);
            DUE.is("told BEYOND", x.told(1), 0);
        }
    }

    /** "n numbers, all 0": also where others were. */
    private static void anewAllNothing() {
        for (int bits : BITS) {
            FigureTill x = new FigureTill();
            Due.fill(x, 0, 9, 9, 9, 3);
            x.sheet(0, bits, 8);
            DUE.is("none", x.basket(0, 0), 0);
            x.put(0, 7, 3);
            x.sheet(0, bits, 2);
            x.sheet(0, bits, 8);
            DUE.is("none", x.basket(0, 0), 0);
            x.put(0, 7, 3);
            x.sheet(0, 0, 0);
            x.sheet(0, bits, 8);
            DUE.is("none", x.basket(0, 0), 0);
        }
    }

    /** A number of a SHEET, told by the PRICE that it becomes; 0 if thing() would refuse it. */
    private static int priceOf(int bits, int v) {
        FigureTill x = new FigureTill();
        x.sheet(3, bits, 1);
        DUE.is("put", x.put(3, 0, v), 1);
        return x.prices(3) == 1 ? x.thingIs(0, 0) : 0;
    }

    /** "becomes v (its lowest bits)". */
    private static void lowestBits() {
        int[] vs = {0, 1, 127, 128, 255, 256, 257, 383, 384, 9999, 10000, 32767, 32768, 65535, 65536, 65537, 75535,
            75536, -1, -128, -129, -255, -256, -32768, -65535, MIN, MIN + 5, MAX};
        for (int v : vs) {
            int[] bits = {(byte) v, (short) v, v};
            for (int i = 0; i < 3; i++) {
                int due = bits[i] >= 1 && bits[i] <= 9999 ? bits[i] : 0;
                DUE.is(v + " by " + BITS[i] + " bits", priceOf(BITS[i], v), due);
            }
        }
    }

    /** "PRICE (1 .. 9999)". */
    private static void pricesOnePenny() {
        int[] vs = {-1, 0, 1, 9999, 10000, MIN, MAX};
        for (int v : vs) {
            DUE.is("a PRICE of " + v, priceOf(32, v), v >= 1 && v <= 9999 ? v : 0);
        }
    }

    /** "PRICES of THINGS 0, 1, ..": there are eight. */
    private static void pricesToEightThings() {
        for (int n : new int[] {0, 1, 7, 8, 9, 24}) {
            FigureTill x = new FigureTill();
            x.sheet(0, 16, n);
            for (int i = 0; i < n; i++) {
                x.put(0, i, 500 + i);
            }
            DUE.is("of " + n, x.prices(0), Math.min(8, n));
            for (int i = 0; i < 8; i++) {
                DUE.is("PRICE " + i, x.thingIs(i, 0), i < n ? 500 + i : new FigureTill().thingIs(i, 0));
                DUE.is("COST " + i, x.thingIs(i, 1), 0);
                DUE.is("STOCK " + i, x.thingIs(i, 2), 9);
            }
            DUE.is("no ERROR", x.told(1), 0);
        }
    }

    /** "how many, up to the first that thing() would refuse (no ERROR then)". */
    private static void pricesUpToWhatIsRefused() {
        for (int wrong : new int[] {0, 10000, -1}) {
            for (int place = 0; place <= 8; place++) {
                FigureTill x = new FigureTill();
                x.sheet(0, 32, 9);
                for (int i = 0; i < 9; i++) {
                    x.put(0, i, i == place ? wrong : 700 + i);
                }
                DUE.is("up to " + place, x.prices(0), place);
                for (int i = 0; i < 8; i++) {
                    DUE.is("PRICE " + i, x.thingIs(i, 0), i < place ? 700 + i : new FigureTill().thingIs(i, 0));
                }
                DUE.is("no ERROR", x.told(1), 0);
            }
        }
    }

    /** Numbers of a SHEET of 32 bits, told one by one by the PRICE that each becomes. */
    private static void row(FigureTill x, int sheet, int... due) {
        x.sheet(3, 32, 1);
        for (int i = 0; i < due.length; i++) {
            DUE.is("number " + i, x.move(sheet, i, 3, 0, 1), 1);
            DUE.is("it can be told", x.prices(3), 1);
            DUE.is("number " + i, x.thingIs(0, 0), due[i]);
        }
        DUE.is("no more", x.put(sheet, due.length, 1), Due.BEYOND);
    }

    private static FigureTill ofTwo() {
        FigureTill x = new FigureTill();
        Due.fill(x, 0, 1, 2, 3, 4, 5);
        Due.fill(x, 1, 11, 12, 13);
        return x;
    }

    /** None may be moved, from where a number stands and from behind the last. */
    private static void moveNone() {
        FigureTill x = ofTwo();
        DUE.is("from the first", x.move(0, 0, 1, 0, 0), 0);
        DUE.is("from behind the last", x.move(0, 5, 1, 3, 0), 0);
        DUE.is("from further", x.move(0, 6, 1, 3, 0), Due.BEYOND);
        DUE.is("to further", x.move(0, 5, 1, 4, 0), Due.BEYOND);
        DUE.is("from ahead of the first", x.move(0, -1, 1, 0, 0), Due.BEYOND);
        DUE.is("to ahead of the first", x.move(0, 0, 1, -1, 0), Due.BEYOND);
        row(x, 0, 1, 2, 3, 4, 5);
        row(x, 1, 11, 12, 13);
        x.sheet(2, 32, 0);
        DUE.is("of no numbers", x.move(2, 0, 2, 0, 0), 0);
        DUE.is("one of none", x.move(2, 0, 0, 0, 1), Due.BEYOND);
        DUE.is("one to none", x.move(0, 0, 2, 0, 1), Due.BEYOND);
    }

    private static void moveAll() {
        int[] due = new int[24];
        FigureTill x = new FigureTill();
        x.sheet(0, 32, 24);
        x.sheet(1, 32, 24);
        for (int i = 0; i < 24; i++) {
            due[i] = 100 + i;
            x.put(0, i, due[i]);
            x.put(1, i, 1);
        }
        DUE.is("all of 24", x.move(0, 0, 1, 0, 24), 24);
        row(x, 1, due);
        DUE.is("25", x.move(0, 0, 1, 0, 25), Due.BEYOND);
        DUE.is("all but one, from one on", x.move(0, 1, 1, 0, 24), Due.BEYOND);
        DUE.is("all but one, to one on", x.move(0, 0, 1, 1, 24), Due.BEYOND);
        DUE.is("the last to the last", x.move(0, 0, 1, 23, 1), 1);
        due[23] = 100;
        row(x, 1, due);
    }

    /** "(or the same)", "as they all were". */
    private static void moveOverItself() {
        FigureTill x = ofTwo();
        DUE.is("one up", x.move(0, 0, 0, 1, 4), 4);
        row(x, 0, 1, 1, 2, 3, 4);
        x = ofTwo();
        DUE.is("one down", x.move(0, 1, 0, 0, 4), 4);
        row(x, 0, 2, 3, 4, 5, 5);
        x = ofTwo();
        DUE.is("where they are", x.move(0, 0, 0, 0, 5), 5);
        row(x, 0, 1, 2, 3, 4, 5);
        x = ofTwo();
        DUE.is("side by side", x.move(0, 0, 0, 2, 2), 2);
        row(x, 0, 1, 2, 1, 2, 5);
    }

    private static void moveToAnother() {
        FigureTill x = ofTwo();
        DUE.is("all three to the end", x.move(1, 0, 0, 2, 3), 3);
        row(x, 0, 1, 2, 11, 12, 13);
        row(x, 1, 11, 12, 13);
        DUE.is("one further", x.move(1, 0, 0, 3, 3), Due.BEYOND);
        DUE.is("four of three", x.move(1, 0, 0, 0, 4), Due.BEYOND);
        DUE.is("four to three", x.move(0, 0, 1, 0, 4), Due.BEYOND);
        row(x, 0, 1, 2, 11, 12, 13);
        row(x, 1, 11, 12, 13);
        for (int bits : BITS) {
            x.sheet(0, bits, 8);
            x.sheet(2, bits, 8);
            x.put(0, 0, 6);
            DUE.is("of like bits", x.move(0, 0, 2, 7, 1), 1);
            DUE.is("moved", x.basket(2, 0), 6);
        }
    }

    /** "NONE: there is none"; "how often that was done". */
    private static void imageWithoutAndInPlace() {
        FigureTill x = new FigureTill();
        DUE.is("none", x.restore(), Due.NONE);
        DUE.is("none still", x.restore(), Due.NONE);
        x.thing(0, 0, 2);
        for (int i = 1; i <= 40; i++) {
            DUE.is("image", x.image(), i);
            x.thing(0, 0, 2 + i);
        }
        DUE.is("restore: GOES", x.restore(), 0);
        DUE.is("the latest one", x.thingIs(0, 0), 41);
        DUE.is("how often stays", x.image(), 41);
        DUE.is("told NONE stays", x.told(2), 2);
    }

    /** "All .. is kept": full as it can be. */
    private static void imageOfAll() {
        FigureTill x = new FigureTill();
        for (int i = 0; i < 60; i++) {
            x.feed(i % 2 == 0 ? '1' : '+', 1);
        }
        for (int i = 1; i <= 24; i++) {
            x.tell(i == 24 ? -5 : x.asks(0, i, 1));
        }
        x.seed(MIN);
        x.till(3, 69);
        x.thing(7, 0, 9999);
        x.thing(7, 1, 9999);
        x.thing(7, 2, 99);
        Due.fill(x, 0, 0, 0, 0, 0, 0, 0, 0, 1);
        x.go(0, 0);
        x.image();
        x.thing(7, 0, 1);
        x.thing(7, 1, 0);
        x.thing(7, 2, 0);
        x.till(3, 0);
        x.text(0);
        x.check(0);
        x.draws(60);
        DUE.is("restore: GOES", x.restore(), 1);
        int[] counts = {1, 36, 9999, 63 + 98, 60, 24, 0, MIN};
        for (int i = 0; i < 8; i++) {
            DUE.is("count " + i, x.count(i), counts[i]);
        }
        DUE.is("PRICE", x.thingIs(7, 0), 9999);
        DUE.is("COST", x.thingIs(7, 1), 9999);
        DUE.is("STOCK", x.thingIs(7, 2), 98);
        DUE.is("a till", x.till(3, 0), 69);
        DUE.is("THE TAPE is full", x.feed('1', 1), Due.FULL);
        DUE.is("its bytes", x.text(0), -70);
        DUE.is("24 wait", x.tell(0), Due.FULL);
        DUE.is("what waits", x.check(0), 24);
    }

    /** "(but SHEETS, THE TRACE, what told() tells, and how often this was done)". */
    private static void imageOfNothingMore() {
        FigureTill x = new FigureTill();
        Due.fill(x, 0, 1);
        x.voice(0, 0, 1);
        x.body(9);
        x.image();
        Due.fill(x, 0, 2, 2);
        x.sheet(1, 8, 8);
        x.voice(0, 2, 1);
        x.body(9);
        x.thing(9, 9, 9);
        x.image();
        x.restore();
        DUE.is("a SHEET", x.basket(0, 0), 4);
        DUE.is("another SHEET", x.basket(1, 0), 0);
        DUE.is("THE TRACE", x.count(6), 3);
        DUE.is("told NONE", x.told(2), 2);
        DUE.is("told BEYOND", x.told(1), 1);
        DUE.is("how often", x.image(), 3);
    }

    /** "as the IMAGE has it, which stays": what comes behind doesn't change it; nothing is in it either. */
    private static void restoreAgain() {
        FigureTill x = new FigureTill();
        Due.law(x, 0, "5");
        x.till(0, 60);
        Due.feed(x, "8");
        x.tell(7);
        x.image();
        for (int i = 0; i < 3; i++) {
            DUE.is("a TEXT", x.asks(0, 1, 1), 5);
            DUE.is("THE TAPE", x.text(0), 1);
            DUE.is("its TEXT", x.asks(0, 1, 1), 8);
            DUE.is("what waits", x.tell(1), 2);
            x.untell(0);
            Due.law(x, 1, "9");
            x.draws(3);
            DUE.is("restore", x.restore(), 0);
        }
        DUE.is("no TEXT", x.untell(1), 0);
        DUE.is("one TEXT", x.untell(0), 1);
        x.image();
        Due.law(x, 0, "7");
        x.restore();
        DUE.is("no TEXT in it", x.untell(0), 0);
        DUE.is("as TILL", x.asks(0, 19, 1), 10);
    }

    /** "FULL: 24 wait." */
    private static void tellTwentyFour() {
        FigureTill x = new FigureTill();
        for (int i = 1; i <= 24; i++) {
            DUE.is("tell", x.tell(x.asks(0, i, 1)), i);
            DUE.is("wait", x.count(5), i);
        }
        DUE.is("a twenty-fifth", x.tell(x.asks(0, 25, 1)), Due.FULL);
        DUE.is("24 wait", x.count(5), 24);
        DUE.is("all are right", x.check(0), 0);
        DUE.is("none waits", x.count(5), 0);
        DUE.is("room again", x.tell(1), 1);
    }

    /** Numbers like ERRORS are numbers. */
    private static void tellAnyNumber() {
        for (int v : new int[] {MIN, MAX, -1, 0, 10000, Due.BEYOND, Due.FULL}) {
            FigureTill x = new FigureTill();
            DUE.is("tell " + v, x.tell(v), 1);
            DUE.is("check", x.check(0), 1);
            DUE.is("no ERROR", x.told(1) + x.told(4), 0);
        }
    }

    /** "1 and the place of the first that isn't so". */
    private static void checkEachPlace() {
        for (int place = 0; place < 24; place++) {
            FigureTill x = new FigureTill();
            x.till(2, 25);
            for (int i = 0; i < 24; i++) {
                boolean wrong = i == place || i == 23;
                x.tell(x.asks(2, i + 1, 1) + (wrong ? 1 : 0));
            }
            DUE.is("the first at " + place, x.check(2), 1 + place);
            DUE.is("none waits", x.count(5), 0);
        }
    }

    /** "(none do then)"; "BEYOND (none wait then, too)". */
    private static void checkNoneWaits() {
        FigureTill x = new FigureTill();
        for (int till = -1; till <= 4; till++) {
            boolean right = till >= 0 && till < 4;
            DUE.is("of none", x.check(till), right ? 0 : Due.BEYOND);
            x.tell(1);
            x.tell(5);
            DUE.is("of two", x.check(till), right ? 2 : Due.BEYOND);
            DUE.is("none waits", x.count(5), 0);
            DUE.is("so none is wrong", x.check(0), 0);
        }
    }

    /** "for sums of 1, 2, .. pence, of one thing". */
    private static void checkOneThing() {
        FigureTill x = new FigureTill();
        x.till(1, 69);
        Due.law(x, 0, "s*100+k*10+m");
        x.tell(119);
        x.tell(219);
        x.tell(319);
        DUE.is("as asked", x.check(1), 0);
        Due.law(x, 0, "9999*9999");
        x.tell(9999);
        DUE.is("held", x.check(1), 0);
    }

    /** "STOCK of all together", and so on: what 0 .. 7. */
    private static void countEach() {
        FigureTill x = new FigureTill();
        for (int i = 0; i < 8; i++) {
            x.thing(i, 2, 99);
        }
        DUE.is("the most STOCK", x.count(3), 792);
        for (int i = 0; i < 8; i++) {
            x.thing(i, 2, 0);
        }
        DUE.is("no STOCK", x.count(3), 0);
        DUE.is("the first", x.count(0), 0);
        DUE.is("the last", x.count(7), 1);
        DUE.is("behind it", x.count(8), Due.BEYOND);
        DUE.is("ahead of the first", x.count(-1), Due.BEYOND);
    }

    /** "(k 1 .. 6); BEYOND: another k (counted, too)". */
    private static void toldEach() {
        FigureTill x = new FigureTill();
        for (int k = 1; k <= 6; k++) {
            DUE.is("told " + k, x.told(k), 0);
        }
        for (int i = 1; i <= 30; i++) {
            DUE.is("k 0", x.told(0), Due.BEYOND);
            DUE.is("told", x.told(1), 2 * i - 1);
            DUE.is("k 7", x.told(7), Due.BEYOND);
            DUE.is("told", x.told(1), 2 * i);
        }
        for (int k = 2; k <= 6; k++) {
            DUE.is("told " + k, x.told(k), 0);
        }
    }
}
