/** Promises 12 to 16. */
public final class GoesTest {
    private static final Due DUE = new Due();

    public static void main(String[] args) {
        basket();
        refusals();
        goes();
        draws();
        seeds();
        DUE.end();
    }

    private static void basket() {
        FigureTill x = new FigureTill();
        for (int i = 0; i < 8; i++) {
            x.thing(i, 1, 100 + i);
        }
        Due.fill(x, 1, 9, 0, 1, 2, 0, 0, 0, 3, 77, -4);
        DUE.is("things", x.basket(1, 0), 15);
        DUE.is("sum", x.basket(1, 1), 9 + 19 + 40 + 2997);
        DUE.is("cost", x.basket(1, 2), 900 + 102 + 206 + 321);
        DUE.is("pays", x.pays(1, 0), 3 + 6 + 5);
        Due.fill(x, 0, 0, 4);
        DUE.is("numbers that lack", x.basket(0, 0), 4);
        DUE.is("pays", x.pays(0, 0), 9);
        x.sheet(0, 8, 0);
        DUE.is("no numbers", x.basket(0, 0), 0);
        x.till(0, 59);
        DUE.is("nothing pays 0", x.pays(0, 0), 0);
        x.sheet(0, 16, 3);
        x.put(0, 0, 65536 + 2);
        DUE.is("lowest bits", x.basket(0, 0), 2);
        x.sheet(0, 8, 3);
        x.put(0, 0, -256 + 3);
        DUE.is("lowest bits", x.basket(0, 0), 3);
    }

    private static void refusals() {
        FigureTill x = new FigureTill();
        Due.fill(x, 0, 9, 9, 9, 3);
        DUE.is("thirty", x.basket(0, 0), 30);
        DUE.is("thirty pay", x.pays(0, 0), 3 + 2 + 1);
        Due.fill(x, 1, 9, 9, 9, 4);
        DUE.is("above thirty", x.basket(1, 0), Due.FULL);
        DUE.is("above thirty", x.pays(1, 0), Due.FULL);
        DUE.is("above thirty", x.go(1, 0), Due.FULL);
        Due.fill(x, 2, 9, 9, 9, 9, 10);
        DUE.is("beyond ahead of full", x.basket(2, 0), Due.BEYOND);
        DUE.is("beyond ahead of full", x.pays(2, 0), Due.BEYOND);
        DUE.is("beyond ahead of full", x.go(2, 0), Due.BEYOND);
        Due.fill(x, 2, 0, 0, 0, 0, 0, 0, 0, -1);
        DUE.is("below 0", x.pays(2, 0), Due.BEYOND);
        DUE.is("missing", x.basket(3, 0), Due.NONE);
        DUE.is("missing", x.pays(3, 0), Due.NONE);
        DUE.is("missing", x.go(3, 0), Due.NONE);
        DUE.is("beyond ahead of missing", x.basket(3, 3), Due.BEYOND);
        DUE.is("beyond ahead of missing", x.basket(3, -1), Due.BEYOND);
        DUE.is("beyond ahead of missing", x.pays(3, 4), Due.BEYOND);
        DUE.is("beyond ahead of missing", x.go(3, -1), Due.BEYOND);
        DUE.is("no such sheet", x.basket(4, 0), Due.BEYOND);
        DUE.is("no such sheet", x.pays(-1, 0), Due.BEYOND);
        DUE.is("no such sheet", x.go(4, 0), Due.BEYOND);
        DUE.is("told NONE", x.told(2), 3);
        DUE.is("told FULL", x.told(4), 3);
        DUE.is("told BEYOND", x.told(1), 11);
    }

    private static void goes() {
        FigureTill x = new FigureTill();
        x.thing(1, 1, 4);
        x.thing(7, 1, 1000);
        Due.fill(x, 0, 0, 3, 0, 0, 0, 0, 0, 5);
        DUE.is("go", x.go(0, 0), 5 + 2 + 2);
        DUE.is("goes", x.count(0), 1);
        DUE.is("takings", x.count(1), 9);
        DUE.is("costs", x.count(2), 5012);
        DUE.is("stock", x.count(3), 64);
        DUE.is("stock", x.thingIs(1, 2), 6);
        DUE.is("stock", x.thingIs(7, 2), 4);
        DUE.is("too little stock", x.go(0, 0), Due.STATE);
        DUE.is("stock stays", x.thingIs(1, 2), 6);
        DUE.is("goes stay", x.count(0), 1);
        DUE.is("told STATE", x.told(3), 1);
        x.thing(7, 2, 5);
        DUE.is("all of it", x.go(0, 1), 9);
        DUE.is("stock", x.thingIs(7, 2), 0);
        DUE.is("takings", x.count(1), 18);
        x.sheet(1, 8, 8);
        DUE.is("nothing goes", x.go(1, 0), 0);
        DUE.is("goes", x.count(0), 3);
    }

    private static void draws() {
        FigureTill x = new FigureTill();
        DUE.is("n below", x.draws(0), Due.BEYOND);
        DUE.is("n above", x.draws(61), Due.BEYOND);
        DUE.is("z stays", x.count(7), 1);
        for (int i = 0; i < 4; i++) {
            x.till(i, 10 * i + 2);
            x.thing(i, 1, 7);
        }
        int z = 1;
        int[] stock = {9, 9, 9, 9, 9, 9, 9, 9};
        int[] price = {1, 9, 19, 20, 99, 100, 250, 999};
        FigureTill other = new FigureTill();
        for (int i = 0; i < 4; i++) {
            other.till(i, 10 * i + 2);
        }
        int takings = 0;
        int costs = 0;
        int goes = 0;
        for (int n = 0; n < 60; n++) {
            int[] draw = new int[3];
            for (int i = 0; i < 3; i++) {
                z = z * 1103515245 + 12345;
                draw[i] = z >>> 8;
            }
            int thing = draw[0] % 8;
            int many = draw[1] % 4 + 1;
            boolean goesOut = stock[thing] >= many;
            if (goesOut) {
                stock[thing] -= many;
                takings += other.asks(draw[2] % 4, price[thing] * many, many);
                costs += thing < 4 ? 7 * many : 0;
                goes++;
            }
            DUE.is("a buyer", x.draws(1), goesOut ? 1 : 0);
            DUE.is("z", x.count(7), z);
            DUE.is("takings", x.count(1), takings);
            DUE.is("costs", x.count(2), costs);
            DUE.is("goes", x.count(0), goes);
            DUE.is("stock", x.thingIs(thing, 2), stock[thing]);
        }
        DUE.is("no ERROR of a buyer", x.told(3), 0);
    }

    private static void seeds() {
        FigureTill x = new FigureTill();
        DUE.is("seed", x.seed(Integer.MIN_VALUE), 1);
        DUE.is("seed", x.seed(Due.BEYOND), Integer.MIN_VALUE);
        DUE.is("seed like an ERROR", x.seed(0), Due.BEYOND);
        x.seed(Due.NONE);
        DUE.is("z like an ERROR", x.count(7), Due.NONE);
        DUE.is("not counted", x.told(1), 0);
        DUE.is("not counted", x.told(2), 0);
    }
}
