/** Shops of a town in which one pays not the sum but what its figures come to. */
public final class FigureTill {
    private static final int LOW = -1000000000;
    private static final int BEYOND = 1;
    private static final int NONE = 2;
    private static final int STATE = 3;
    private static final int FULL = 4;
    private static final int KIND = 5;
    private static final int PARTED = 6;

    private static final int THINGS = 8;
    private static final int PRICE = 0;
    private static final int COST = 1;
    private static final int STOCK = 2;
    private static final int[] FIRST_PRICES = {1, 9, 19, 20, 99, 100, 250, 999};
    private static final int[] LEAST = {1, 0, 0};
    private static final int[] MOST = {9999, 9999, 99};
    private static final int FIRST_STOCK = 9;
    private static final int MOST_MONEY = 99999999;
    private static final int MOST_GOES = 9999;
    private static final int MOST_PAID = 9999;
    private static final int MOST_VALUE = 99;

    private static final int TILLS = 4;
    private static final int KINDS = 7;
    private static final int VOICES = 4;
    private static final int TRACED = 30;

    private static final int OF_EACH = 9;
    private static final int IN_BASKET = 30;
    private static final int IN_TWO = 12;
    private static final int FEW = 3;
    private static final int MOST_SUM = 299970;

    private static final int TAPE = 60;
    private static final int USES = 2;
    private static final int OPEN = 5;
    private static final int NUMBER_DIGITS = 4;

    private static final int SHEETS = 4;
    private static final int NUMBERS = 24;
    private static final int WAITING = 24;
    private static final int BUYERS = 60;
    private static final int CASES = 16;

    /** Far above the rounds of any search here. */
    private static final int MANY = 1000000;
    /** Above the figures of any int, in any base. */
    private static final int MANY_FIGURES = 32;

    private final Shop shop = new Shop();
    private final Shop kept = new Shop();
    private boolean imaged = false;
    private int images = 0;

    private final int[] sheetBits = new int[SHEETS];
    private final int[] sheetLengths = new int[SHEETS];
    private final int[][] sheetNumbers = new int[SHEETS][NUMBERS];
    private final Trace trace = new Trace();
    private final int[] errors = new int[PARTED + 1];

    private final Basket one = new Basket();
    private final Basket second = new Basket();
    private final Basket extra = new Basket();
    private final int[] room = new int[THINGS];
    private final int[] values = new int[THINGS];

    private final Basket best = new Basket();
    private int bestPaid = 0;
    private int bestNet = 0;

    /** All as at first. */
    public FigureTill() {
    }

    // ---- things, tills

    public int thing(int thing, int what, int v) {
        if (!isThing(thing) || !within(what, PRICE, STOCK) || !isGood(what, v)) {
            return error(BEYOND);
        }
        int was = shop.goods[what][thing];
        shop.goods[what][thing] = v;
        return was;
    }

    public int thingIs(int thing, int what) {
        if (!isThing(thing) || !within(what, PRICE, STOCK + 1)) {
            return error(BEYOND);
        }
        return what > STOCK ? shop.valueOf(thing) : shop.goods[what][thing];
    }

    public int till(int till, int km) {
        if (!isTill(till) || !within(km, 0, 10 * KINDS - 1)) {
            return error(BEYOND);
        }
        Till was = shop.tills[till];
        shop.tills[till] = tillOf(km / 10, till, km % 10);
        return 10 * was.kind() + was.m;
    }

    public int tillIs(int till, int what) {
        if (!isTill(till) || !within(what, 0, 1)) {
            return error(BEYOND);
        }
        return what == 0 ? shop.tills[till].kind() : shop.tills[till].m;
    }

    public int as(int till, int kind) {
        if (!isTill(till) || !within(kind, 0, KINDS - 1)) {
            return error(BEYOND);
        }
        return shop.tills[till].isOf(kind) ? shop.tills[till].m : error(KIND);
    }

    public int figures(int sum, int base) {
        if (sum < 0 || !within(base, 2, 11)) {
            return error(BEYOND);
        }
        return figureSum(sum, base);
    }

    public int asks(int till, int sum, int k) {
        if (!isTill(till) || !within(sum, 0, MOST_SUM) || !within(k, 0, IN_BASKET)) {
            return error(BEYOND);
        }
        return shop.paid(till, sum, k);
    }

    // ---- texts

    public int feed(long word, int n) {
        if (!within(n, 1, 8)) {
            return error(BEYOND);
        }
        if (shop.fed + n > TAPE) {
            return error(FULL);
        }
        for (int i = 0; i < n; i++) {
            shop.tape[shop.fed + i] = (int) (word >>> (8 * i)) & 255;
        }
        shop.fed += n;
        return shop.fed;
    }

    public int text(int use) {
        if (!within(use, 0, USES - 1)) {
            return error(BEYOND);
        }
        int fault = shop.law(use).fault(shop.tape, shop.fed);
        shop.fed = 0;
        return fault < 0 ? 1 : -10 - fault;
    }

    public int untell(int use) {
        if (!within(use, 0, USES - 1)) {
            return error(BEYOND);
        }
        Law law = shop.law(use);
        int was = law.isTold() ? 1 : 0;
        law.length = 0;
        return was;
    }

    // ---- goes

    public int basket(int sheet, int what) {
        if (!isSheet(sheet) || !within(what, 0, 2)) {
            return error(BEYOND);
        }
        int wrong = refusal(sheet, IN_BASKET);
        if (wrong != 0) {
            return error(wrong);
        }
        if (what == 0) {
            return one.things;
        }
        return what == 1 ? one.sum : one.sumBy(shop.goods[COST]);
    }

    public int pays(int sheet, int till) {
        int wrong = refusal(sheet, till, IN_BASKET);
        return wrong != 0 ? error(wrong) : shop.paid(till, one.sum, one.things);
    }

    public int go(int sheet, int till) {
        int wrong = refusal(sheet, till, IN_BASKET);
        if (wrong != 0) {
            return error(wrong);
        }
        return shop.hasStock(one) ? shop.sold(one, till) : error(STATE);
    }

    public int draws(int n) {
        if (!within(n, 1, BUYERS)) {
            return error(BEYOND);
        }
        int goes = 0;
        for (int i = 0; i < n; i++) {
            int thing = shop.drawn(THINGS);
            int many = shop.drawn(4) + 1;
            int till = shop.drawn(TILLS);
            one.clear();
            one.row[thing] = many;
            one.add(shop.goods[PRICE]);
            if (shop.hasStock(one)) {
                shop.sold(one, till);
                goes++;
            }
        }
        return goes;
    }

    public int seed(int v) {
        int was = shop.z;
        shop.z = v;
        return was;
    }

    // ---- what is cheaper

    public int more(int sheet, int till, int e, int what) {
        if (!within(e, 0, 4) || !within(what, -2, THINGS - 1)) {
            return error(BEYOND);
        }
        int wrong = refusal(sheet, till, IN_BASKET);
        if (wrong != 0) {
            return error(wrong);
        }
        findCheapest(till, e);
        if (what >= 0) {
            return best.row[what];
        }
        return what == -1 ? bestPaid : bestNet;
    }

    public int inTwo(int sheet, int till) {
        int wrong = refusal(sheet, till, IN_TWO);
        if (wrong != 0) {
            return error(wrong);
        }
        extra.clear();
        int least = shop.paid(till, one.sum, one.things);
        for (int i = 0; i < MANY && extra.step(one.row, one.things, shop.goods[PRICE]); i++) {
            int paid = shop.paid(till, extra.sum, extra.things)
                + shop.paid(till, one.sum - extra.sum, one.things - extra.things);
            least = Math.min(least, paid);
        }
        return least;
    }

    public int together(int sheet, int other, int till) {
        if (!isSheet(sheet) || !isSheet(other) || !isTill(till)) {
            return error(BEYOND);
        }
        if (isMissing(sheet) || isMissing(other)) {
            return error(NONE);
        }
        if (!reads(sheet, one) || !reads(other, second)) {
            return error(BEYOND);
        }
        int things = one.things + second.things;
        if (things > IN_BASKET) {
            return error(FULL);
        }
        return shop.paid(till, one.sum, one.things) + shop.paid(till, second.sum, second.things)
            - shop.paid(till, one.sum + second.sum, things);
    }

    public int worth(int sheet, int till, int thing) {
        if (!isThing(thing)) {
            return error(BEYOND);
        }
        int wrong = refusal(sheet, till, IN_BASKET - 1);
        if (wrong != 0) {
            return error(wrong);
        }
        return shop.paid(till, one.sum, one.things)
            - shop.paid(till, one.sum + shop.goods[PRICE][thing], one.things + 1);
    }

    public int dearer(int sheet, int till, int e) {
        if (!within(e, 0, 2)) {
            return error(BEYOND);
        }
        int wrong = refusal(sheet, till, IN_BASKET);
        if (wrong != 0) {
            return error(wrong);
        }
        findCheapest(till, e);
        int most = bestPaid;
        int answer = 0;
        for (int thing = 0; thing < THINGS; thing++) {
            // 0 more is the same for every THING, and least for THING 0: it is asked once, above
            for (int up = 1; up <= 9; up++) {
                int paid = paidIfDearer(till, e, thing, up);
                if (paid > most) {
                    most = paid;
                    answer = 10 * thing + up;
                }
            }
        }
        return answer;
    }

    public int nines(int till) {
        if (!within(till, -1, TILLS - 1)) {
            return error(BEYOND);
        }
        return till < 0 ? allByNine() : leastOfFew(till);
    }

    public long erring(int sheet, int till, int odds, int part) {
        if (odds < 0 || odds / (CASES + 1) + odds % (CASES + 1) > CASES || !within(part, 0, 1)) {
            return error(BEYOND);
        }
        int wrong = refusal(sheet, till, IN_BASKET);
        if (wrong != 0) {
            return error(wrong);
        }
        int above = takenInCases(till, odds / (CASES + 1), odds % (CASES + 1));
        int common = commonDivisor(above, CASES);
        return part == 0 ? above / common : CASES / common;
    }

    public int wasIn(int till, int paid, int what) {
        if (!isTill(till) || !within(paid, 0, MOST_PAID) || !within(what, 0, 1)) {
            return error(BEYOND);
        }
        int many = 0;
        int first = 0;
        startFew();
        for (int i = 0; i < MANY && extra.step(room, FEW, shop.goods[PRICE]); i++) {
            if (shop.paid(till, extra.sum, extra.things) == paid) {
                first = many == 0 ? extra.rowAsNumber() : first;
                many++;
            }
        }
        if (what == 0) {
            return many;
        }
        return many == 0 ? error(NONE) : first;
    }

    // ---- voices, sheets, images, what is told

    public int voice(int till, int voice, int x) {
        if (!isTill(till) || !within(voice, 0, VOICES - 1)) {
            return error(BEYOND);
        }
        trace.start();
        Till speaker = shop.tills[till];
        int answer;
        switch (voice) {
            case 0: answer = speaker.adds(trace, x); break;
            case 1: answer = speaker.comes(trace, x); break;
            case 2: answer = speaker.gives(trace, x); break;
            default: answer = speaker.parts(trace, x); break;
        }
        return trace.parted ? error(PARTED) : answer;
    }

    public int body(int i) {
        return within(i, 0, trace.length - 1) ? trace.bodies[i] : error(NONE);
    }

    public int sheet(int sheet, int bits, int n) {
        if (!isSheet(sheet) || bits != 0 && bits != 8 && bits != 16 && bits != 32) {
            return error(BEYOND);
        }
        if (bits != 0 && n < 0) {
            return error(STATE);
        }
        if (bits != 0 && n > NUMBERS) {
            return error(BEYOND);
        }
        sheetBits[sheet] = bits;
        sheetLengths[sheet] = bits == 0 ? 0 : n;
        for (int i = 0; i < NUMBERS; i++) {
            sheetNumbers[sheet][i] = 0;
        }
        return 1;
    }

    public int put(int sheet, int i, int v) {
        if (!isSheet(sheet)) {
            return error(BEYOND);
        }
        if (isMissing(sheet)) {
            return error(NONE);
        }
        if (!within(i, 0, sheetLengths[sheet] - 1)) {
            return error(BEYOND);
        }
        sheetNumbers[sheet][i] = lowest(v, sheetBits[sheet]);
        return 1;
    }

    public int move(int sheet, int i, int other, int j, int n) {
        if (!isSheet(sheet) || !isSheet(other)) {
            return error(BEYOND);
        }
        if (isMissing(sheet) || isMissing(other)) {
            return error(NONE);
        }
        if (sheetBits[sheet] != sheetBits[other]) {
            return error(KIND);
        }
        if (!stand(sheet, i, n) || !stand(other, j, n)) {
            return error(BEYOND);
        }
        System.arraycopy(sheetNumbers[sheet], i, sheetNumbers[other], j, n);
        return n;
    }

    public int prices(int sheet) {
        if (!isSheet(sheet)) {
            return error(BEYOND);
        }
        if (isMissing(sheet)) {
            return error(NONE);
        }
        int many = Math.min(THINGS, sheetLengths[sheet]);
        for (int i = 0; i < many; i++) {
            if (!isGood(PRICE, sheetNumbers[sheet][i])) {
                return i;
            }
            shop.goods[PRICE][i] = sheetNumbers[sheet][i];
        }
        return many;
    }

    public int image() {
        kept.become(shop);
        imaged = true;
        images++;
        return images;
    }

    public int restore() {
        if (!imaged) {
            return error(NONE);
        }
        shop.become(kept);
        return shop.goes;
    }

    public int tell(int v) {
        if (shop.waits >= WAITING) {
            return error(FULL);
        }
        shop.waiting[shop.waits] = v;
        shop.waits++;
        return shop.waits;
    }

    public int check(int till) {
        int waits = shop.waits;
        shop.waits = 0;
        if (!isTill(till)) {
            return error(BEYOND);
        }
        for (int i = 0; i < waits && i < WAITING; i++) {
            if (shop.waiting[i] != shop.paid(till, i + 1, 1)) {
                return 1 + i;
            }
        }
        return 0;
    }

    public int count(int what) {
        switch (what) {
            case 0: return shop.goes;
            case 1: return shop.takings;
            case 2: return shop.costs;
            case 3: return shop.stockOfAll();
            case 4: return shop.fed;
            case 5: return shop.waits;
            case 6: return trace.length;
            case 7: return shop.z;
            default: return error(BEYOND);
        }
    }

    public int told(int k) {
        return within(k, BEYOND, PARTED) ? errors[k] : error(BEYOND);
    }

    // ---- what the acts ask first

    private int error(int number) {
        if (within(number, BEYOND, PARTED)) {
            errors[number]++;
        }
        return LOW - number;
    }

    private static boolean within(int v, int least, int most) {
        return v >= least && v <= most;
    }

    private static int held(int v, int most) {
        return Math.max(0, Math.min(v, most));
    }

    private static boolean isThing(int thing) {
        return within(thing, 0, THINGS - 1);
    }

    private static boolean isTill(int till) {
        return within(till, 0, TILLS - 1);
    }

    private static boolean isSheet(int sheet) {
        return within(sheet, 0, SHEETS - 1);
    }

    private static boolean isGood(int what, int v) {
        return within(v, LEAST[what], MOST[what]);
    }

    private boolean isMissing(int sheet) {
        return sheetBits[sheet] == 0;
    }

    /** Whether n numbers of a SHEET stand there from number i on. */
    private boolean stand(int sheet, int i, int n) {
        return n >= 0 && i >= 0 && n <= sheetLengths[sheet] && i <= sheetLengths[sheet] - n;
    }

    /** The ERROR of an act that takes a BASKET at a till, or 0 if there is none: it is in one then. */
    private int refusal(int sheet, int till, int most) {
        return isSheet(sheet) && isTill(till) ? refusal(sheet, most) : BEYOND;
    }

    private int refusal(int sheet, int most) {
        if (isMissing(sheet)) {
            return NONE;
        }
        if (!reads(sheet, one)) {
            return BEYOND;
        }
        return one.things > most ? FULL : 0;
    }

    /** Whether a SHEET's numbers are those of a BASKET, which is read into one. */
    private boolean reads(int sheet, Basket basket) {
        basket.clear();
        for (int i = 0; i < THINGS && i < sheetLengths[sheet]; i++) {
            if (!within(sheetNumbers[sheet][i], 0, OF_EACH)) {
                return false;
            }
            basket.row[i] = sheetNumbers[sheet][i];
        }
        basket.add(shop.goods[PRICE]);
        return true;
    }

    private static int lowest(int v, int bits) {
        if (bits == 8) {
            return (byte) v;
        }
        return bits == 16 ? (short) v : v;
    }

    // ---- figures, fractions

    private static int figureSum(int sum, int base) {
        if (base < 2) {
            return 0;
        }
        int figures = 0;
        int rest = sum;
        for (int i = 0; i < MANY_FIGURES && rest > 0; i++) {
            figures += rest % base;
            rest /= base;
        }
        return figures;
    }

    /** FIGURES of FIGURES, and so on, till it is one figure. */
    private static int oneFigure(int sum, int base) {
        int rest = sum;
        for (int i = 0; i < MANY_FIGURES && rest >= base; i++) {
            rest = figureSum(rest, base);
        }
        return rest;
    }

    /** At least 1. */
    private static int commonDivisor(int a, int b) {
        int greater = a;
        int less = b;
        for (int i = 0; i < MANY && less > 0; i++) {
            int rest = greater % less;
            greater = less;
            less = rest;
        }
        return Math.max(1, greater);
    }

    /** What a clerk takes of 16 buyers of the BASKET, of whom he asks more and less of some. */
    private int takenInCases(int till, int oneMore, int oneLess) {
        if (one.things == 0) {
            return 0;
        }
        int paid = shop.paid(till, one.sum, one.things);
        return CASES * paid + oneMore - (paid == 0 ? 0 : oneLess);
    }

    // ---- searches

    /** MORE by e of the BASKET: best, bestPaid and bestNet. */
    private void findCheapest(int till, int e) {
        for (int i = 0; i < THINGS; i++) {
            room[i] = OF_EACH - one.row[i];
            values[i] = shop.valueOf(i);
        }
        int most = Math.min(e, IN_BASKET - one.things);
        extra.clear();
        best.copy(extra);
        bestPaid = shop.paid(till, one.sum, one.things);
        bestNet = bestPaid;
        // rows come in their order: of several as good the first stays
        for (int i = 0; i < MANY && extra.step(room, most, shop.goods[PRICE]); i++) {
            int paid = shop.paid(till, one.sum + extra.sum, one.things + extra.things);
            int net = paid - extra.sumBy(values);
            if (net < bestNet || net == bestNet && extra.things < best.things) {
                best.copy(extra);
                bestPaid = paid;
                bestNet = net;
            }
        }
    }

    /** What the BASKET of MORE by e PAYS if a THING's PRICE is so much more; -1 if it may not be. */
    private int paidIfDearer(int till, int e, int thing, int up) {
        int[] price = shop.goods[PRICE];
        int was = price[thing];
        if (!isGood(PRICE, was + up)) {
            return -1;
        }
        price[thing] = was + up;
        one.add(price);
        findCheapest(till, e);
        price[thing] = was;
        return bestPaid;
    }

    private int allByNine() {
        for (int i = 0; i < THINGS; i++) {
            if (shop.goods[PRICE][i] % 9 != 0) {
                return 0;
            }
        }
        return 1;
    }

    /** Ahead of the steps through the BASKETS of 1 .. 3 things. */
    private void startFew() {
        extra.clear();
        for (int i = 0; i < THINGS; i++) {
            room[i] = FEW;
        }
    }

    private int leastOfFew(int till) {
        int least = MOST_PAID;
        startFew();
        for (int i = 0; i < MANY && extra.step(room, FEW, shop.goods[PRICE]); i++) {
            least = Math.min(least, shop.paid(till, extra.sum, extra.things));
        }
        return least;
    }

    // ---- tills

    private static Till tillOf(int kind, int number, int m) {
        switch (kind) {
            case 1: return new LastTill(number, m);
            case 2: return new RootTill(number, m);
            case 3: return new ErrsTill(number, m);
            case 4: return new OtherTill(number, m);
            case 5: return new FloorTill(number, m);
            case 6: return new ToldTill(number, m);
            default: return new Till(number, m);
        }
    }

    /** The BODIES of a voice, as they began. */
    private static final class Trace {
        private final int[] bodies = new int[TRACED];
        private int length = 0;
        private boolean parted = false;

        private void start() {
            length = 0;
            parted = false;
        }

        private void began(int body) {
            if (length < TRACED) {
                bodies[length] = body;
                length++;
            }
        }
    }

    /** A till, which never changes: another one takes its place. */
    private static class Till {
        final int number;
        final int m;

        Till(int number, int m) {
            this.number = number;
            this.m = m;
        }

        int kind() {
            return 0;
        }

        /** Whether it is of a KIND, or of one under it. */
        boolean isOf(int kind) {
            return kind == 0;
        }

        /** What is asked for a sum of some things; a law, if there is one, is for TOLD tills. */
        int due(int sum, int things, Law law) {
            return figureSum(sum, 10);
        }

        int adds(Trace trace, int x) {
            trace.began(10);
            return x + number;
        }

        int comes(Trace trace, int x) {
            trace.began(11);
            return adds(trace, x) * 2;
        }

        int gives(Trace trace, int x) {
            trace.began(12);
            return comes(trace, x) - m;
        }

        int parts(Trace trace, int x) {
            trace.began(13);
            int by = m - number;
            if (by == 0) {
                trace.parted = true;
                return 0;
            }
            return x / by;
        }
    }

    private static class LastTill extends Till {
        LastTill(int number, int m) {
            super(number, m);
        }

        @Override int kind() {
            return 1;
        }

        @Override boolean isOf(int kind) {
            return kind == 1 || super.isOf(kind);
        }

        @Override int due(int sum, int things, Law law) {
            return sum % 10;
        }

        @Override int adds(Trace trace, int x) {
            trace.began(20);
            return super.adds(trace, x) - 9;
        }

        @Override int parts(Trace trace, int x) {
            trace.began(21);
            int left = super.parts(trace, x);
            // a voice that is PARTED ends there: what stands right does not begin
            return trace.parted ? 0 : left + comes(trace, 1);
        }
    }

    private static class RootTill extends Till {
        RootTill(int number, int m) {
            super(number, m);
        }

        @Override int kind() {
            return 2;
        }

        @Override boolean isOf(int kind) {
            return kind == 2 || super.isOf(kind);
        }

        @Override int due(int sum, int things, Law law) {
            return oneFigure(sum, 10);
        }

        @Override int comes(Trace trace, int x) {
            trace.began(30);
            return 0 - super.comes(trace, x);
        }
    }

    private static final class ErrsTill extends Till {
        ErrsTill(int number, int m) {
            super(number, m);
        }

        @Override int kind() {
            return 3;
        }

        @Override boolean isOf(int kind) {
            return kind == 3 || super.isOf(kind);
        }

        @Override int due(int sum, int things, Law law) {
            return figureSum(sum + m, 10);
        }

        @Override int gives(Trace trace, int x) {
            trace.began(40);
            return super.gives(trace, x / 2);
        }
    }

    private static final class OtherTill extends RootTill {
        OtherTill(int number, int m) {
            super(number, m);
        }

        @Override int kind() {
            return 4;
        }

        @Override boolean isOf(int kind) {
            return kind == 4 || super.isOf(kind);
        }

        @Override int due(int sum, int things, Law law) {
            return oneFigure(sum, m + 2);
        }

        @Override int comes(Trace trace, int x) {
            trace.began(60);
            return super.comes(trace, x + 1);
        }
    }

    private static final class FloorTill extends LastTill {
        FloorTill(int number, int m) {
            super(number, m);
        }

        @Override int kind() {
            return 5;
        }

        @Override boolean isOf(int kind) {
            return kind == 5 || super.isOf(kind);
        }

        @Override int due(int sum, int things, Law law) {
            return Math.max(m, super.due(sum, things, law));
        }

        @Override int adds(Trace trace, int x) {
            trace.began(50);
            return super.adds(trace, x) * 3;
        }

        @Override int gives(Trace trace, int x) {
            trace.began(51);
            return super.gives(trace, x) ^ number;
        }
    }

    private static final class ToldTill extends Till {
        ToldTill(int number, int m) {
            super(number, m);
        }

        @Override int kind() {
            return 6;
        }

        @Override boolean isOf(int kind) {
            return kind == 6 || super.isOf(kind);
        }

        @Override int due(int sum, int things, Law law) {
            return law.isTold() ? law.workedOut(sum, things, m) : super.due(sum, things, law);
        }

        @Override int adds(Trace trace, int x) {
            trace.began(70);
            return 9;
        }

        @Override int comes(Trace trace, int x) {
            trace.began(71);
            return super.comes(trace, x) + m;
        }
    }

    /** All that an IMAGE keeps. */
    private static final class Shop {
        private final int[][] goods = new int[STOCK + 1][THINGS];
        private final Till[] tills = new Till[TILLS];
        private int takings = 0;
        private int costs = 0;
        private int goes = 0;
        private int z = 1;
        private final int[] tape = new int[TAPE];
        private int fed = 0;
        private final Law paysLaw = new Law("skm");
        private final Law valuesLaw = new Law("tpc");
        private final int[] waiting = new int[WAITING];
        private int waits = 0;

        private Shop() {
            for (int i = 0; i < THINGS; i++) {
                goods[PRICE][i] = FIRST_PRICES[i];
                goods[STOCK][i] = FIRST_STOCK;
            }
            for (int i = 0; i < TILLS; i++) {
                tills[i] = tillOf(0, i, 0);
            }
        }

        private void become(Shop other) {
            for (int i = PRICE; i <= STOCK; i++) {
                System.arraycopy(other.goods[i], 0, goods[i], 0, THINGS);
            }
            for (int i = 0; i < TILLS; i++) {
                tills[i] = other.tills[i];
            }
            takings = other.takings;
            costs = other.costs;
            goes = other.goes;
            z = other.z;
            System.arraycopy(other.tape, 0, tape, 0, TAPE);
            fed = other.fed;
            paysLaw.become(other.paysLaw);
            valuesLaw.become(other.valuesLaw);
            System.arraycopy(other.waiting, 0, waiting, 0, WAITING);
            waits = other.waits;
        }

        private Law law(int use) {
            return use == 0 ? paysLaw : valuesLaw;
        }

        /** What a till asks for a sum of some things. */
        private int paid(int till, int sum, int things) {
            return things == 0 ? 0 : held(tills[till].due(sum, things, paysLaw), MOST_PAID);
        }

        private int valueOf(int thing) {
            if (!valuesLaw.isTold()) {
                return 0;
            }
            return held(valuesLaw.workedOut(thing, goods[PRICE][thing], goods[COST][thing]), MOST_VALUE);
        }

        private int stockOfAll() {
            int all = 0;
            for (int i = 0; i < THINGS; i++) {
                all += goods[STOCK][i];
            }
            return all;
        }

        private boolean hasStock(Basket basket) {
            for (int i = 0; i < THINGS; i++) {
                if (goods[STOCK][i] < basket.row[i]) {
                    return false;
                }
            }
            return true;
        }

        /** What is paid for a BASKET that STOCK has, and that is sold. */
        private int sold(Basket basket, int till) {
            int paid = paid(till, basket.sum, basket.things);
            for (int i = 0; i < THINGS; i++) {
                goods[STOCK][i] -= basket.row[i];
            }
            takings = Math.min(MOST_MONEY, takings + paid);
            costs = Math.min(MOST_MONEY, costs + basket.sumBy(goods[COST]));
            goes = Math.min(MOST_GOES, goes + 1);
            return paid;
        }

        /** The next draw's rest; by is above 0. */
        private int drawn(int by) {
            z = z * 1103515245 + 12345;
            return by > 0 ? (z >>> 8) % by : 0;
        }
    }

    /** How many of each THING; things and sum are of its row. */
    private static final class Basket {
        private final int[] row = new int[THINGS];
        private int things = 0;
        private int sum = 0;

        private void clear() {
            for (int i = 0; i < THINGS; i++) {
                row[i] = 0;
            }
            things = 0;
            sum = 0;
        }

        private void copy(Basket other) {
            System.arraycopy(other.row, 0, row, 0, THINGS);
            things = other.things;
            sum = other.sum;
        }

        private int sumBy(int[] each) {
            int all = 0;
            for (int i = 0; i < THINGS; i++) {
                all += row[i] * each[i];
            }
            return all;
        }

        /** Adds things and sum of its row anew. */
        private void add(int[] price) {
            things = 0;
            for (int i = 0; i < THINGS; i++) {
                things += row[i];
            }
            sum = sumBy(price);
        }

        /**
         * Goes on to the next row, in the order of rows, with no more of each than there is room
         * for, and so many things at most: whether there is one. Behind the last it is empty.
         */
        private boolean step(int[] room, int most, int[] price) {
            for (int i = THINGS - 1; i >= 0; i--) {
                if (row[i] < room[i] && things < most) {
                    row[i]++;
                    things++;
                    sum += price[i];
                    return true;
                }
                things -= row[i];
                sum -= row[i] * price[i];
                row[i] = 0;
            }
            return false;
        }

        private int rowAsNumber() {
            int number = 0;
            for (int i = 0; i < THINGS; i++) {
                number = 10 * number + row[i];
            }
            return number;
        }
    }

    /**
     * A TEXT as it is worked out, and how it is read. Its code holds what stands right behind what
     * it joins: numbers as they are, the names as -1, -2, -3, signs as less their byte.
     */
    private static final class Law {
        private final String names;
        private final int[] code = new int[TAPE];
        private int length = 0;
        private final int[] stack = new int[TAPE];

        // while it is read
        private final int[] bytes = new int[TAPE];
        private final int[] draft = new int[TAPE];
        private int drafted = 0;
        private int end = 0;
        private int place = 0;
        private boolean failed = false;

        private Law(String names) {
            this.names = names;
        }

        private boolean isTold() {
            return length > 0;
        }

        private void become(Law other) {
            System.arraycopy(other.code, 0, code, 0, TAPE);
            length = other.length;
        }

        /** The FAULT of the tape's first bytes; -1 if they are a TEXT, which is the law then. */
        private int fault(int[] tape, int fed) {
            end = Math.min(fed, TAPE);
            System.arraycopy(tape, 0, bytes, 0, end);
            place = 0;
            drafted = 0;
            failed = false;
            readEither(0);
            if (failed || place < end) {
                return place;
            }
            System.arraycopy(draft, 0, code, 0, TAPE);
            length = drafted;
            return -1;
        }

        /** The byte that comes next, -1 if none does. */
        private int next() {
            return failed || place >= end ? -1 : bytes[place];
        }

        private void write(int step) {
            if (drafted < TAPE) {
                draft[drafted] = step;
                drafted++;
            }
        }

        private void readEither(int open) {
            readBoth(open);
            for (int i = 0; i < TAPE && next() == '|'; i++) {
                place++;
                readBoth(open);
                write(-'|');
            }
        }

        private void readBoth(int open) {
            readCompared(open);
            for (int i = 0; i < TAPE && next() == '&'; i++) {
                place++;
                readCompared(open);
                write(-'&');
            }
        }

        private void readCompared(int open) {
            readAdded(open);
            int sign = next();
            if (sign == '<' || sign == '=' || sign == '>') {
                place++;
                readAdded(open);
                write(-sign);
            }
        }

        private void readAdded(int open) {
            readTimes(open);
            int sign = next();
            for (int i = 0; i < TAPE && (sign == '+' || sign == '-'); i++) {
                place++;
                readTimes(open);
                write(-sign);
                sign = next();
            }
        }

        private void readTimes(int open) {
            readOne(open);
            int sign = next();
            for (int i = 0; i < TAPE && (sign == '*' || sign == '/' || sign == '%'); i++) {
                place++;
                readOne(open);
                write(-sign);
                sign = next();
            }
        }

        private void readOne(int open) {
            int sign = next();
            if (isDigit(sign)) {
                readNumber();
            } else if (nameOf(sign) >= 0) {
                place++;
                write(-1 - nameOf(sign));
            } else if (sign == '!' && open < OPEN) {
                place++;
                readOne(open + 1);
                write(-'!');
            } else if (sign == '(' && open < OPEN) {
                place++;
                readEither(open + 1);
                readClose();
            } else {
                failed = true;
            }
        }

        private void readClose() {
            if (next() == ')') {
                place++;
            } else {
                failed = true;
            }
        }

        private void readNumber() {
            int number = 0;
            for (int i = 0; i < NUMBER_DIGITS && isDigit(next()); i++) {
                number = 10 * number + next() - '0';
                place++;
            }
            write(number);
        }

        private static boolean isDigit(int sign) {
            return sign >= '0' && sign <= '9';
        }

        /** The place of a name among the names, -1 if it is none. */
        private int nameOf(int sign) {
            for (int i = 0; i < names.length(); i++) {
                if (names.charAt(i) == sign) {
                    return i;
                }
            }
            return -1;
        }

        private int workedOut(int first, int second, int third) {
            int top = 0;
            for (int i = 0; i < length && i < TAPE; i++) {
                int step = code[i];
                if (step >= -3) {
                    if (top < TAPE) {
                        stack[top] = step >= 0 ? step : named(step, first, second, third);
                        top++;
                    }
                } else if (step == -'!') {
                    if (top > 0) {
                        stack[top - 1] = stack[top - 1] == 0 ? 1 : 0;
                    }
                } else if (top > 1) {
                    top--;
                    stack[top - 1] = joined(-step, stack[top - 1], stack[top]);
                }
            }
            return stack[0];
        }

        private static int named(int step, int first, int second, int third) {
            if (step == -1) {
                return first;
            }
            return step == -2 ? second : third;
        }

        private static int joined(int sign, int a, int b) {
            switch (sign) {
                case '|': return a != 0 || b != 0 ? 1 : 0;
                case '&': return a != 0 && b != 0 ? 1 : 0;
                case '<': return a < b ? 1 : 0;
                case '=': return a == b ? 1 : 0;
                case '>': return a > b ? 1 : 0;
                case '+': return a + b;
                case '-': return a - b;
                case '*': return a * b;
                case '/': return b == 0 ? 0 : a / b;
                default: return b == 0 ? 0 : a % b;
            }
        }
    }
}
