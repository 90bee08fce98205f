/** Promises 1 to 8. */
public final class ThingsTillsTest {
    private static final Due DUE = new Due();

    public static void main(String[] args) {
        newObject();
        things();
        values();
        tills();
        kindsUnderKinds();
        figures();
        asks();
        DUE.end();
    }

    private static void newObject() {
        FigureTill x = new FigureTill();
        int[] prices = {1, 9, 19, 20, 99, 100, 250, 999};
        for (int i = 0; i < 8; i++) {
            DUE.is("first price", x.thingIs(i, 0), prices[i]);
            DUE.is("first cost", x.thingIs(i, 1), 0);
            DUE.is("first stock", x.thingIs(i, 2), 9);
            DUE.is("first value", x.thingIs(i, 3), 0);
        }
        for (int i = 0; i < 4; i++) {
            DUE.is("first kind", x.tillIs(i, 0), 0);
            DUE.is("first m", x.tillIs(i, 1), 0);
            DUE.is("first sheet", x.pays(i, 0), Due.NONE);
        }
        long[] counts = {0, 0, 0, 72, 0, 0, 0, 1};
        for (int i = 0; i < 8; i++) {
            DUE.is("first count " + i, x.count(i), counts[i]);
        }
        DUE.is("first body", x.body(0), Due.NONE);
        DUE.is("first restore", x.restore(), Due.NONE);
        DUE.is("first untell", x.untell(0), 0);
        DUE.is("first untell", x.untell(1), 0);
        DUE.is("told NONE", x.told(2), 6);
        DUE.is("told BEYOND", x.told(1), 0);
    }

    private static void things() {
        FigureTill x = new FigureTill();
        int[] least = {1, 0, 0};
        int[] most = {9999, 9999, 99};
        for (int what = 0; what < 3; what++) {
            int was = x.thingIs(4, what);
            DUE.is("below", x.thing(4, what, least[what] - 1), Due.BEYOND);
            DUE.is("above", x.thing(4, what, most[what] + 1), Due.BEYOND);
            DUE.is("unchanged", x.thingIs(4, what), was);
            DUE.is("least", x.thing(4, what, least[what]), was);
            DUE.is("most", x.thing(4, what, most[what]), least[what]);
            DUE.is("is most", x.thingIs(4, what), most[what]);
        }
        DUE.is("another thing", x.thingIs(3, 0), 20);
        DUE.is("no such thing", x.thing(8, 0, 1), Due.BEYOND);
        DUE.is("no such thing", x.thing(-1, 0, 1), Due.BEYOND);
        DUE.is("no such what", x.thing(0, 3, 1), Due.BEYOND);
        DUE.is("no such what", x.thing(0, -1, 1), Due.BEYOND);
        DUE.is("no such thing", x.thingIs(-1, 0), Due.BEYOND);
        DUE.is("no such thing", x.thingIs(8, 0), Due.BEYOND);
        DUE.is("no such what", x.thingIs(0, 4), Due.BEYOND);
        DUE.is("no such what", x.thingIs(0, -1), Due.BEYOND);
        DUE.is("told", x.told(1), 14);
    }

    private static void values() {
        FigureTill x = new FigureTill();
        x.thing(2, 1, 7);
        Due.law(x, 1, "t*10+c+p/10");
        DUE.is("value", x.thingIs(2, 3), 28);
        DUE.is("value held above", x.thingIs(7, 3), 99);
        Due.law(x, 1, "1-p");
        DUE.is("value held below", x.thingIs(5, 3), 0);
        x.untell(1);
        DUE.is("value without a text", x.thingIs(2, 3), 0);
    }

    private static void tills() {
        FigureTill x = new FigureTill();
        DUE.is("till", x.till(3, 69), 0);
        DUE.is("kind", x.tillIs(3, 0), 6);
        DUE.is("m", x.tillIs(3, 1), 9);
        DUE.is("till", x.till(3, 0), 69);
        DUE.is("till", x.till(3, 27), 0);
        DUE.is("other till", x.tillIs(2, 0), 0);
        DUE.is("km above", x.till(3, 70), Due.BEYOND);
        DUE.is("km below", x.till(3, -1), Due.BEYOND);
        DUE.is("no such till", x.till(4, 0), Due.BEYOND);
        DUE.is("no such till", x.till(-1, 0), Due.BEYOND);
        DUE.is("unchanged", x.tillIs(3, 1), 7);
        DUE.is("no such till", x.tillIs(4, 0), Due.BEYOND);
        DUE.is("no such till", x.tillIs(-1, 0), Due.BEYOND);
        DUE.is("no such what", x.tillIs(0, 2), Due.BEYOND);
        DUE.is("no such what", x.tillIs(0, -1), Due.BEYOND);
    }

    private static void kindsUnderKinds() {
        String[] above = {"0", "10", "20", "30", "420", "510", "60"};
        FigureTill x = new FigureTill();
        for (int kind = 0; kind < 7; kind++) {
            x.till(1, 10 * kind + 8);
            DUE.is("kind", x.tillIs(1, 0), kind);
            DUE.is("kind and m", x.till(1, 10 * kind + 8), 10 * kind + 8);
            for (int as = 0; as < 7; as++) {
                boolean is = above[kind].indexOf((char) ('0' + as)) >= 0;
                DUE.is(kind + " as " + as, x.as(1, as), is ? 8 : Due.KIND);
            }
        }
        DUE.is("told KIND", x.told(5), 49 - 15);
        DUE.is("no such till", x.as(4, 0), Due.BEYOND);
        DUE.is("no such till", x.as(-1, 0), Due.BEYOND);
        DUE.is("no such kind", x.as(0, 7), Due.BEYOND);
        DUE.is("no such kind", x.as(0, -1), Due.BEYOND);
    }

    private static void figures() {
        FigureTill x = new FigureTill();
        DUE.is("figures", x.figures(0, 10), 0);
        DUE.is("figures", x.figures(299970, 10), 36);
        DUE.is("figures", x.figures(120, 11), 20);
        DUE.is("figures", x.figures(121, 11), 1);
        DUE.is("figures", x.figures(26, 3), 6);
        DUE.is("figures", x.figures(2147483647, 10), 46);
        DUE.is("figures", x.figures(2147483647, 2), 31);
        DUE.is("sum below", x.figures(-1, 10), Due.BEYOND);
        DUE.is("sum below", x.figures(Integer.MIN_VALUE, 10), Due.BEYOND);
        DUE.is("base below", x.figures(5, 1), Due.BEYOND);
        DUE.is("base none", x.figures(5, 0), Due.BEYOND);
        DUE.is("base above", x.figures(5, 12), Due.BEYOND);
    }

    private static void asks() {
        int[] kms = {0, 9, 13, 25, 35, 40, 45, 49, 50, 57, 66};
        int[] due = {22, 22, 8, 4, 18, 1, 4, 8, 8, 8, 22};
        FigureTill x = new FigureTill();
        for (int i = 0; i < kms.length; i++) {
            x.till(2, kms[i]);
            DUE.is("asks as " + kms[i], x.asks(2, 4918, 3), due[i]);
            DUE.is("nothing at " + kms[i], x.asks(2, 4918, 0), 0);
        }
        x.till(2, 35);
        DUE.is("errs at no sum", x.asks(2, 0, 1), 5);
        x.till(2, 57);
        DUE.is("floor", x.asks(2, 21, 1), 7);
        DUE.is("floor, no sum", x.asks(2, 0, 30), 7);
        x.till(2, 63);
        Due.law(x, 0, "s*10+k*3-m");
        DUE.is("told", x.asks(2, 100, 2), 1003);
        DUE.is("told held above", x.asks(2, 1000, 2), 9999);
        DUE.is("told held below", x.asks(2, 0, 1), 0);
        x.till(2, 69);
        DUE.is("told held below", x.asks(2, 0, 1), 0);
        DUE.is("sum most", x.asks(0, 299970, 30), 36);
        DUE.is("sum above", x.asks(0, 299971, 30), Due.BEYOND);
        DUE.is("sum below", x.asks(0, -1, 30), Due.BEYOND);
        DUE.is("k above", x.asks(0, 1, 31), Due.BEYOND);
        DUE.is("k below", x.asks(0, 1, -1), Due.BEYOND);
        DUE.is("no such till", x.asks(4, 1, 1), Due.BEYOND);
        DUE.is("no such till", x.asks(-1, 1, 1), Due.BEYOND);
    }
}
