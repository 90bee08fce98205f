/**
 * Each wrong input with its ERROR, which of two ERRORS comes first, and that a refused call changes
 * nothing but what the document says: all on objects that hold something of everything.
 */
public final class RefusalsTest {
    private static final Due DUE = new Due();
    private static final Twin TWIN = new Twin(DUE);
    private static final int MIN = Integer.MIN_VALUE;
    private static final int MAX = Integer.MAX_VALUE;
    private static final int[] NO_FOUR = {-1, 4, MIN, MAX, 256, -256};
    private static final int[] NO_EIGHT = {-1, 8, MIN, MAX, 256, -256};

    /** An act that takes a BASKET at a till. */
    private interface BasketAct {
        long on(FigureTill x, int sheet, int till);
    }

    public static void main(String[] args) {
        things();
        tills();
        figuresAndAsks();
        texts();
        fullTape();
        basketActs();
        manyInBaskets();
        otherNumbersOfBaskets();
        stockOfGoes();
        together();
        drawsNinesWasIn();
        voices();
        sheets();
        moves();
        images();
        waiting();
        counts();
        askingChangesNothing();
        DUE.end();
    }

    private static void things() {
        for (int no : NO_EIGHT) {
            TWIN.refused("thing(" + no + ", 0, 5)", Due.BEYOND, x -> x.thing(no, 0, 5));
            TWIN.refused("thingIs(" + no + ", 0)", Due.BEYOND, x -> x.thingIs(no, 0));
        }
        for (int no : new int[] {-1, 3, 4, MIN, MAX}) {
            TWIN.refused("thing(5, " + no + ", 5)", Due.BEYOND, x -> x.thing(5, no, 5));
        }
        for (int no : new int[] {-1, 4, MIN, MAX}) {
            TWIN.refused("thingIs(5, " + no + ")", Due.BEYOND, x -> x.thingIs(5, no));
        }
        int[][] wrong = {{0, -1, 10000, MIN, MAX, 65537}, {-1, 10000, MIN, MAX}, {-1, 100, MIN, MAX, 256}};
        for (int what = 0; what < 3; what++) {
            for (int v : wrong[what]) {
                int of = what;
                TWIN.refused("thing(5, " + of + ", " + v + ")", Due.BEYOND, x -> x.thing(5, of, v));
            }
        }
    }

    private static void tills() {
        for (int no : NO_FOUR) {
            TWIN.refused("till(" + no + ", 10)", Due.BEYOND, x -> x.till(no, 10));
            TWIN.refused("tillIs(" + no + ", 0)", Due.BEYOND, x -> x.tillIs(no, 0));
            TWIN.refused("as(" + no + ", 0)", Due.BEYOND, x -> x.as(no, 0));
        }
        for (int km : new int[] {-1, -10, 70, 79, MIN, MAX}) {
            TWIN.refused("till(1, " + km + ")", Due.BEYOND, x -> x.till(1, km));
        }
        for (int no : new int[] {-1, 2, MIN, MAX}) {
            TWIN.refused("tillIs(1, " + no + ")", Due.BEYOND, x -> x.tillIs(1, no));
        }
        for (int no : new int[] {-1, 7, MIN, MAX}) {
            TWIN.refused("as(1, " + no + ")", Due.BEYOND, x -> x.as(1, no));
        }
        for (int kind : new int[] {2, 3, 4, 6}) {
            TWIN.refused("a FLOOR till as " + kind, Due.KIND, x -> x.as(1, kind));
            TWIN.refused("no such till as " + kind, Due.BEYOND, x -> x.as(4, kind));
        }
        TWIN.refused("a LAST till as FLOOR, which is under it", Due.KIND, x -> x.as(3, 5));
        TWIN.refused("an OTHER till as LAST", Due.KIND, x -> x.as(2, 1));
    }

    private static void figuresAndAsks() {
        for (int no : new int[] {-1, MIN}) {
            TWIN.refused("figures(" + no + ", 10)", Due.BEYOND, x -> x.figures(no, 10));
        }
        for (int no : new int[] {-2, -1, 0, 1, 12, MIN, MAX}) {
            TWIN.refused("figures(19, " + no + ")", Due.BEYOND, x -> x.figures(19, no));
        }
        for (int no : NO_FOUR) {
            TWIN.refused("asks(" + no + ", 1, 1)", Due.BEYOND, x -> x.asks(no, 1, 1));
        }
        for (int no : new int[] {-1, 299971, MIN, MAX}) {
            TWIN.refused("asks(0, " + no + ", 1)", Due.BEYOND, x -> x.asks(0, no, 1));
            TWIN.refused("asks(0, " + no + ", 0): nothing", Due.BEYOND, x -> x.asks(0, no, 0));
        }
        for (int no : new int[] {-1, 31, MIN, MAX}) {
            TWIN.refused("asks(0, 1, " + no + ")", Due.BEYOND, x -> x.asks(0, 1, no));
        }
    }

    private static void texts() {
        for (int n : new int[] {-1, 0, 9, MIN, MAX}) {
            TWIN.refused("feed(0, " + n + ")", Due.BEYOND, x -> x.feed(0x3131313131313131L, n));
        }
        for (int use : new int[] {-1, 2, MIN, MAX}) {
            TWIN.refused("text(" + use + "): THE TAPE stays", Due.BEYOND, x -> x.text(use));
            TWIN.refused("untell(" + use + ")", Due.BEYOND, x -> x.untell(use));
        }
        // k is no NAME of USE 1
        TWIN.changes("a FAULT empties THE TAPE, no more", -10, Twin::busy, x -> x.text(1),
            x -> x.text(0) + Due.law(x, 0, "s*3+k-m"));
    }

    /** THE TAPE has so many bytes. */
    private static long fed(FigureTill x, int bytes) {
        Twin.busy(x);
        for (int i = x.count(4); i < bytes; i++) {
            x.feed('+', 1);
        }
        return x.count(4);
    }

    private static void fullTape() {
        for (int n = 1; n <= 8; n++) {
            int many = n;
            DUE.is("sixty bytes by " + n, fits(60 - n, n), 60);
            TWIN.refused("feed of " + n + " to a sixty-first", Due.FULL, x -> fed(x, 61 - many), x -> x.feed(0x31, many));
        }
        TWIN.refused("BEYOND ahead of FULL", Due.BEYOND, x -> fed(x, 60), x -> x.feed(0x31, 0));
        TWIN.refused("BEYOND ahead of FULL", Due.BEYOND, x -> fed(x, 60), x -> x.feed(0x31, 9));
    }

    private static long fits(int bytes, int n) {
        FigureTill x = new FigureTill();
        fed(x, bytes);
        return x.feed(0x31, n);
    }

    /** Each act that takes a BASKET, by name. */
    private static void eachBasketAct(String what, int error, Twin.Acts ready, int sheet, int till) {
        String on = "(" + sheet + ", " + till + ": " + what + ")";
        basketAct("pays" + on, error, ready, sheet, till, FigureTill::pays);
        basketAct("go" + on, error, ready, sheet, till, FigureTill::go);
        basketAct("more" + on, error, ready, sheet, till, (x, s, t) -> x.more(s, t, 4, -2));
        basketAct("inTwo" + on, error, ready, sheet, till, FigureTill::inTwo);
        basketAct("together" + on, error, ready, sheet, till, (x, s, t) -> x.together(s, s, t));
        basketAct("together, one" + on, error, ready, sheet, till, (x, s, t) -> x.together(s, 0, t));
        basketAct("together, the other" + on, error, ready, sheet, till, (x, s, t) -> x.together(0, s, t));
        basketAct("worth" + on, error, ready, sheet, till, (x, s, t) -> x.worth(s, t, 7));
        basketAct("dearer" + on, error, ready, sheet, till, (x, s, t) -> x.dearer(s, t, 2));
        basketAct("erring" + on, error, ready, sheet, till, (x, s, t) -> x.erring(s, t, 18, 1));
        if (till >= 0 && till < 4) {
            basketAct("basket" + on, error, ready, sheet, till, (x, s, t) -> x.basket(s, 2));
        }
    }

    private static void basketAct(String call, int error, Twin.Acts ready, int sheet, int till, BasketAct act) {
        TWIN.refused(call, error, ready, x -> act.on(x, sheet, till));
    }

    private static void basketActs() {
        for (int no : NO_FOUR) {
            eachBasketAct("no such SHEET", Due.BEYOND, Twin::busy, no, 0);
            eachBasketAct("no such till", Due.BEYOND, Twin::busy, 0, no);
            eachBasketAct("no such till ahead of NONE", Due.BEYOND, Twin::busy, 2, no);
            eachBasketAct("no such till ahead of FULL", Due.BEYOND, Twin::busy, 3, no);
        }
        eachBasketAct("it is missing", Due.NONE, Twin::busy, 2, 3);
        eachBasketAct("a number is 10", Due.BEYOND, Twin::busy, 1, 3);
        eachBasketAct("above 30 things", Due.FULL, Twin::busy, 3, 3);
    }

    /** SHEET 0 has these numbers. */
    private static Twin.Acts filled(int... numbers) {
        return x -> {
            Twin.busy(x);
            Due.fill(x, 0, numbers);
            return 1;
        };
    }

    private static void manyInBaskets() {
        for (int i = 0; i < 8; i++) {
            int[] above = new int[8];
            int[] below = new int[8];
            above[i] = 10;
            below[i] = -1;
            eachBasketAct("number " + i + " is above 9", Due.BEYOND, filled(above), 0, 0);
            eachBasketAct("number " + i + " is below 0", Due.BEYOND, filled(below), 0, 0);
        }
        eachBasketAct("a number of 256", Due.BEYOND, filled(256), 0, 0);
        eachBasketAct("of 32 bits: their sign", Due.BEYOND, filled(0, MIN + 1), 0, 0);
        eachBasketAct("the greatest numbers", Due.BEYOND, filled(MAX, MAX, 2), 0, 0);
        eachBasketAct("31 things", Due.FULL, filled(9, 9, 9, 4), 0, 0);
        eachBasketAct("72 things", Due.FULL, filled(9, 9, 9, 9, 9, 9, 9, 9), 0, 0);
        eachBasketAct("a number ahead of FULL", Due.BEYOND, filled(9, 9, 9, 9, 0, 0, 0, 10), 0, 0);
        eachBasketAct("a number ahead of FULL", Due.BEYOND, filled(-1, 9, 9, 9, 9), 0, 0);
        TWIN.refused("inTwo of 13", Due.FULL, filled(0, 0, 0, 0, 0, 0, 4, 9), x -> x.inTwo(0, 0));
        TWIN.refused("worth to 30", Due.FULL, filled(9, 9, 9, 3), x -> x.worth(0, 0, 0));
        TWIN.refused("no such THING ahead of FULL", Due.BEYOND, filled(9, 9, 9, 3), x -> x.worth(0, 0, 8));
    }

    /** Numbers that are asked for besides the SHEET and the till are asked for ahead of NONE. */
    private static void otherNumbersOfBaskets() {
        for (int sheet = 0; sheet < 4; sheet++) {
            int s = sheet;
            for (int no : new int[] {-1, 3, MIN, MAX}) {
                TWIN.refused("basket(" + s + ", " + no + ")", Due.BEYOND, x -> x.basket(s, no));
                TWIN.refused("dearer(" + s + ", 0, " + no + ")", Due.BEYOND, x -> x.dearer(s, 0, no));
            }
            for (int no : new int[] {-1, 5, MIN, MAX}) {
                TWIN.refused("more(" + s + ", 0, " + no + ", 0)", Due.BEYOND, x -> x.more(s, 0, no, 0));
            }
            for (int no : new int[] {-3, 8, MIN, MAX}) {
                TWIN.refused("more(" + s + ", 0, 0, " + no + ")", Due.BEYOND, x -> x.more(s, 0, 0, no));
            }
            for (int no : NO_EIGHT) {
                TWIN.refused("worth(" + s + ", 0, " + no + ")", Due.BEYOND, x -> x.worth(s, 0, no));
            }
            for (int no : new int[] {-1, -17, 33, 17 * 15 + 2, 17 * 16 + 1, 289, MIN, MAX}) {
                TWIN.refused("erring(" + s + ", 0, " + no + ", 0)", Due.BEYOND, x -> x.erring(s, 0, no, 0));
            }
            for (int no : new int[] {-1, 2, MIN, MAX}) {
                TWIN.refused("erring(" + s + ", 0, 0, " + no + ")", Due.BEYOND, x -> x.erring(s, 0, 0, no));
            }
        }
    }

    private static void stockOfGoes() {
        for (int i = 0; i < 8; i++) {
            int[] row = new int[8];
            row[i] = 3;
            int thing = i;
            Twin.Acts ready = x -> {
                filled(row).on(x);
                return x.thing(thing, 2, 2);
            };
            TWIN.refused("go for 3 of THING " + i + ", of which there are 2", Due.STATE, ready, x -> x.go(0, 0));
        }
        Twin.Acts none = x -> {
            filled(9, 9, 9, 4).on(x);
            return x.thing(0, 2, 0);
        };
        TWIN.refused("FULL ahead of STATE", Due.FULL, none, x -> x.go(0, 0));
    }

    /** SHEETS 0 and 1 have these numbers. */
    private static Twin.Acts both(int[] one, int[] other) {
        return x -> {
            Twin.busy(x);
            Due.fill(x, 0, one);
            Due.fill(x, 1, other);
            return 1;
        };
    }

    private static void togetherRefused(String what, int error, Twin.Acts ready, int sheet, int other) {
        TWIN.refused("together: " + what, error, ready, x -> x.together(sheet, other, 0));
        TWIN.refused("together: " + what + ", changed about", error, ready, x -> x.together(other, sheet, 0));
    }

    private static void together() {
        int[] thirty = {9, 9, 9, 3};
        togetherRefused("no such SHEET ahead of a missing one", Due.BEYOND, Twin::busy, 2, 4);
        togetherRefused("a missing SHEET ahead of a number", Due.NONE, Twin::busy, 2, 1);
        togetherRefused("a missing SHEET ahead of FULL", Due.NONE, Twin::busy, 2, 3);
        togetherRefused("a number ahead of FULL", Due.BEYOND, Twin::busy, 1, 3);
        togetherRefused("one above 30", Due.FULL, both(new int[] {9, 9, 9, 4}, new int[0]), 0, 1);
        togetherRefused("both above 30", Due.FULL, both(thirty, new int[] {0, 0, 0, 0, 0, 0, 0, 1}), 0, 1);
        togetherRefused("above 30, and a number of the other", Due.BEYOND, both(thirty, new int[] {9, 10}), 0, 1);
        TWIN.refused("one SHEET twice", Due.FULL, both(new int[] {9, 7}, thirty), x -> x.together(0, 0, 0));
    }

    private static void drawsNinesWasIn() {
        for (int n : new int[] {-1, 0, 61, MIN, MAX}) {
            TWIN.refused("draws(" + n + ")", Due.BEYOND, x -> x.draws(n));
        }
        for (int no : new int[] {-2, 4, MIN, MAX}) {
            TWIN.refused("nines(" + no + ")", Due.BEYOND, x -> x.nines(no));
        }
        for (int no : NO_FOUR) {
            TWIN.refused("wasIn(" + no + ", 9, 0)", Due.BEYOND, x -> x.wasIn(no, 9, 0));
            TWIN.refused("wasIn(" + no + ", 9999, 1): none pays that", Due.BEYOND, x -> x.wasIn(no, 9999, 1));
        }
        for (int no : new int[] {-1, 10000, MIN, MAX}) {
            TWIN.refused("wasIn(1, " + no + ", 0)", Due.BEYOND, x -> x.wasIn(1, no, 0));
            TWIN.refused("wasIn(1, " + no + ", 1)", Due.BEYOND, x -> x.wasIn(1, no, 1));
        }
        for (int no : new int[] {-1, 2, MIN, MAX}) {
            TWIN.refused("wasIn(1, 9, " + no + ")", Due.BEYOND, x -> x.wasIn(1, 9, no));
            TWIN.refused("wasIn(1, 9999, " + no + ") ahead of NONE", Due.BEYOND, x -> x.wasIn(1, 9999, no));
        }
        TWIN.refused("wasIn: none pays that", Due.NONE, x -> x.wasIn(1, 9999, 1));
    }

    private static void voices() {
        for (int no : NO_FOUR) {
            TWIN.refused("voice(" + no + ", 0, 1)", Due.BEYOND, x -> x.voice(no, 0, 1));
            TWIN.refused("voice(3, " + no + ", 1)", Due.BEYOND, x -> x.voice(3, no, 1));
            TWIN.refused("voice(" + no + ", 3, 1)", Due.BEYOND, x -> x.voice(no, 3, 1));
        }
        for (int i : new int[] {-1, 6, 29, 30, 31, MIN, MAX}) {
            TWIN.refused("body(" + i + ")", Due.NONE, x -> x.body(i));
        }
        FigureTill x = new FigureTill();
        Twin.busy(x);
        DUE.is("a PARTED voice", x.voice(3, 3, 7), Due.PARTED);
        DUE.is("is the latest one, so its BODIES are THE TRACE", x.count(6), 2);
        DUE.is("its first", x.body(0), 21);
        DUE.is("its second", x.body(1), 13);
        DUE.is("told PARTED", x.told(6), 1);
        TWIN.changes("PARTED changes THE TRACE, no more", Due.PARTED, Twin::busy,
            RefusalsTest::partedThenTracedAgain, y -> 0);
    }

    /** A PARTED voice, and the one that made THE TRACE ahead of it once more. */
    private static long partedThenTracedAgain(FigureTill x) {
        int parted = x.voice(3, 3, 7);
        x.voice(1, 2, 7);
        return parted;
    }

    private static void sheets() {
        for (int no : NO_FOUR) {
            TWIN.refused("sheet(" + no + ", 8, 3)", Due.BEYOND, x -> x.sheet(no, 8, 3));
            TWIN.refused("sheet(" + no + ", 0, 0)", Due.BEYOND, x -> x.sheet(no, 0, 0));
            TWIN.refused("no such SHEET ahead of n below 0", Due.BEYOND, x -> x.sheet(no, 8, -1));
            TWIN.refused("put(" + no + ", 0, 1)", Due.BEYOND, x -> x.put(no, 0, 1));
            TWIN.refused("prices(" + no + ")", Due.BEYOND, x -> x.prices(no));
        }
        for (int bits : new int[] {-8, -1, 1, 7, 9, 15, 17, 24, 31, 33, 64, MIN, MAX}) {
            TWIN.refused("sheet(0, " + bits + ", 3)", Due.BEYOND, x -> x.sheet(0, bits, 3));
            TWIN.refused("no such bits ahead of n below 0", Due.BEYOND, x -> x.sheet(0, bits, -1));
        }
        for (int bits : new int[] {8, 16, 32}) {
            for (int n : new int[] {-1, -24, MIN}) {
                TWIN.refused("sheet(0, " + bits + ", " + n + ")", Due.STATE, x -> x.sheet(0, bits, n));
            }
            for (int n : new int[] {25, 256, MAX}) {
                TWIN.refused("sheet(0, " + bits + ", " + n + ")", Due.BEYOND, x -> x.sheet(0, bits, n));
            }
        }
        for (int i : new int[] {-1, 5, 23, 24, MIN, MAX}) {
            TWIN.refused("put(0, " + i + ", 9)", Due.BEYOND, x -> x.put(0, i, 9));
            TWIN.refused("a missing SHEET ahead of its number " + i, Due.NONE, x -> x.put(2, i, 9));
        }
        TWIN.refused("put to a missing SHEET", Due.NONE, x -> x.put(2, 0, 9));
        TWIN.refused("prices of a missing SHEET", Due.NONE, x -> x.prices(2));
    }

    private static void moves() {
        for (int no : NO_FOUR) {
            TWIN.refused("move from SHEET " + no, Due.BEYOND, x -> x.move(no, 0, 0, 0, 1));
            TWIN.refused("move to SHEET " + no, Due.BEYOND, x -> x.move(0, 0, no, 0, 1));
            TWIN.refused("no such SHEET ahead of a missing one", Due.BEYOND, x -> x.move(no, 0, 2, 0, 1));
            TWIN.refused("no such SHEET ahead of a missing one", Due.BEYOND, x -> x.move(2, 0, no, 0, 1));
        }
        TWIN.refused("from a missing one", Due.NONE, x -> x.move(2, 0, 0, 0, 1));
        TWIN.refused("to a missing one", Due.NONE, x -> x.move(0, 0, 2, 0, 1));
        TWIN.refused("of a missing one to itself", Due.NONE, x -> x.move(2, 0, 2, 0, 0));
        TWIN.refused("NONE ahead of n, i, j", Due.NONE, x -> x.move(0, -1, 2, -1, -1));
        TWIN.refused("of 8 bits to 32", Due.KIND, x -> x.move(0, 0, 1, 0, 1));
        TWIN.refused("of 16 bits to 8", Due.KIND, x -> x.move(3, 0, 0, 0, 1));
        TWIN.refused("of 32 bits to 16", Due.KIND, x -> x.move(1, 0, 3, 0, 1));
        TWIN.refused("KIND with none to move", Due.KIND, x -> x.move(0, 0, 1, 0, 0));
        TWIN.refused("KIND ahead of n, i, j", Due.KIND, x -> x.move(0, -1, 1, -1, -1));
        // SHEET 0 has 5 numbers
        int[][] beyond = {{0, 0, -1}, {-1, 0, 1}, {0, -1, 1}, {-1, 0, 0}, {0, -1, 0}, {0, 0, 6}, {1, 0, 5}, {0, 1, 5},
            {5, 0, 1}, {0, 5, 1}, {6, 0, 0}, {0, 6, 0}, {MIN, 0, 1}, {0, MIN, 1}, {0, 0, MIN}, {MAX, 0, 1}, {0, MAX, 1},
            {0, 0, MAX}, {2, 2, MAX}, {MAX, MAX, MAX}, {MAX, 0, 0}, {MIN, MIN, MIN}};
        for (int[] n : beyond) {
            TWIN.refused("move(0, " + n[0] + ", 0, " + n[1] + ", " + n[2] + ")", Due.BEYOND,
                x -> x.move(0, n[0], 0, n[1], n[2]));
        }
        Twin.Acts unlike = both(new int[] {1, 2, 3, 4, 5}, new int[] {6, 7, 8});
        TWIN.refused("more than there are", Due.BEYOND, unlike, x -> x.move(1, 0, 0, 0, 4));
        TWIN.refused("more than there is room for", Due.BEYOND, unlike, x -> x.move(0, 0, 1, 0, 4));
    }

    private static void images() {
        TWIN.refused("restore without an IMAGE", Due.NONE, x -> x.thing(3, 0, 77), FigureTill::restore);
    }

    private static void waiting() {
        Twin.Acts full = x -> {
            Twin.busy(x);
            while (x.count(5) < 24) {
                x.tell(x.count(5));
            }
            return 1;
        };
        TWIN.refused("tell to 24", Due.FULL, full, x -> x.tell(1));
        for (int no : NO_FOUR) {
            // none wait then, too: as behind a check() of a till
            TWIN.changes("check(" + no + ")", Due.BEYOND, Twin::busy, x -> x.check(no), x -> x.check(0));
            TWIN.changes("check(" + no + ") of none", Due.BEYOND, x -> 0, x -> x.check(no), x -> 0);
        }
    }

    private static void counts() {
        for (int what : new int[] {-1, 8, MIN, MAX}) {
            TWIN.refused("count(" + what + ")", Due.BEYOND, x -> x.count(what));
        }
        for (int k : new int[] {-1, 0, 7, MIN, MAX}) {
            TWIN.refused("told(" + k + ") is counted, too", Due.BEYOND, x -> x.told(k));
        }
    }

    /** Acts that only tell something leave all as it was when they aren't refused, too. */
    private static void askingChangesNothing() {
        Twin.Acts ready = filled(0, 2, 1, 0, 3);
        TWIN.asks("thingIs", ready, x -> x.thingIs(5, 3));
        TWIN.asks("tillIs", ready, x -> x.tillIs(3, 1));
        TWIN.asks("as", ready, x -> x.as(1, 1));
        TWIN.asks("figures", ready, x -> x.figures(19, 10));
        TWIN.asks("asks", ready, x -> x.asks(0, 299970, 30));
        TWIN.asks("basket", ready, x -> x.basket(0, 2));
        TWIN.asks("pays", ready, x -> x.pays(0, 1));
        TWIN.asks("more", ready, x -> x.more(0, 3, 4, -2));
        TWIN.asks("inTwo", ready, x -> x.inTwo(0, 2));
        TWIN.asks("together", ready, x -> x.together(0, 0, 0));
        TWIN.asks("worth", ready, x -> x.worth(0, 1, 7));
        TWIN.asks("dearer", ready, x -> x.dearer(0, 0, 2));
        TWIN.asks("nines of PRICES", ready, x -> x.nines(-1));
        TWIN.asks("nines", ready, x -> x.nines(0));
        TWIN.asks("erring", ready, x -> x.erring(0, 0, 18, 0));
        TWIN.asks("wasIn", ready, x -> x.wasIn(1, 9, 1));
        TWIN.asks("body", ready, x -> x.body(5));
        TWIN.asks("count", ready, x -> x.count(1));
        TWIN.asks("told", ready, x -> x.told(6));
        TWIN.asks("a move to where they are", ready, x -> x.move(0, 0, 0, 0, 5));
        TWIN.asks("seed as it was", ready, x -> x.seed(x.count(7)));
    }
}
