/** Promises 27 to 30. */
public final class SheetsTest {
    private static final Due DUE = new Due();

    public static void main(String[] args) {
        sheets();
        puts();
        moves();
        prices();
        DUE.end();
    }

    private static void sheets() {
        FigureTill x = new FigureTill();
        int[] bits = {8, 16, 32};
        for (int b : bits) {
            DUE.is("sheet", x.sheet(3, b, 24), 1);
            DUE.is("last number", x.put(3, 23, 1), 1);
            DUE.is("no such number", x.put(3, 24, 1), Due.BEYOND);
            DUE.is("n above", x.sheet(3, b, 25), Due.BEYOND);
            DUE.is("n below", x.sheet(3, b, -1), Due.STATE);
            DUE.is("as it was", x.put(3, 23, 1), 1);
            DUE.is("no numbers", x.sheet(3, b, 0), 1);
            DUE.is("is not missing", x.put(3, 0, 1), Due.BEYOND);
        }
        DUE.is("no such bits", x.sheet(3, 7, 1), Due.BEYOND);
        DUE.is("no such bits", x.sheet(3, 64, 1), Due.BEYOND);
        DUE.is("no such bits", x.sheet(3, -8, 1), Due.BEYOND);
        DUE.is("no such bits ahead of n", x.sheet(3, 24, -1), Due.BEYOND);
        DUE.is("no such sheet", x.sheet(4, 8, 1), Due.BEYOND);
        DUE.is("no such sheet", x.sheet(-1, 8, -1), Due.BEYOND);
        DUE.is("no such sheet", x.sheet(4, 0, 0), Due.BEYOND);
        Due.fill(x, 0, 5, 5);
        DUE.is("anew", x.sheet(0, 32, 2), 1);
        DUE.is("all 0", x.basket(0, 0), 0);
        DUE.is("missing", x.sheet(0, 0, -7), 1);
        DUE.is("missing", x.basket(0, 0), Due.NONE);
        DUE.is("missing again", x.sheet(0, 0, 99), 1);
        DUE.is("told STATE", x.told(3), 3);
    }

    private static void puts() {
        FigureTill x = new FigureTill();
        DUE.is("missing", x.put(0, 99, 1), Due.NONE);
        DUE.is("no such sheet", x.put(4, 0, 1), Due.BEYOND);
        DUE.is("no such sheet", x.put(-1, 0, 1), Due.BEYOND);
        x.sheet(0, 8, 3);
        DUE.is("no such number", x.put(0, -1, 1), Due.BEYOND);
        DUE.is("no such number", x.put(0, 3, 1), Due.BEYOND);
        DUE.is("put", x.put(0, 2, 0x105), 1);
        DUE.is("eight bits", x.basket(0, 0), 5);
        x.sheet(0, 16, 3);
        x.put(0, 2, 0x10105);
        DUE.is("sixteen bits", x.basket(0, 0), Due.BEYOND);
        x.put(0, 2, 0x10005);
        DUE.is("sixteen bits", x.basket(0, 0), 5);
        x.sheet(0, 32, 3);
        x.put(0, 2, 0x10005);
        DUE.is("thirty-two bits", x.basket(0, 0), Due.BEYOND);
    }

    /** Tells a SHEET's first numbers by the PRICES that they become. */
    private static void dueRow(FigureTill x, int sheet, int... row) {
        x.prices(sheet);
        for (int i = 0; i < row.length; i++) {
            DUE.is("number " + i, x.thingIs(i, 0), row[i]);
        }
    }

    private static void moves() {
        FigureTill x = new FigureTill();
        Due.fill(x, 0, 1, 2, 3, 4, 5, 6, 7, 8);
        DUE.is("up", x.move(0, 0, 0, 2, 5), 5);
        dueRow(x, 0, 1, 2, 1, 2, 3, 4, 5, 8);
        Due.fill(x, 0, 1, 2, 3, 4, 5, 6, 7, 8);
        DUE.is("down", x.move(0, 3, 0, 1, 5), 5);
        dueRow(x, 0, 1, 4, 5, 6, 7, 8, 7, 8);
        Due.fill(x, 1, 11, 12, 13);
        DUE.is("to another", x.move(1, 0, 0, 5, 3), 3);
        dueRow(x, 0, 1, 4, 5, 6, 7, 11, 12, 13);
        DUE.is("none", x.move(1, 3, 0, 8, 0), 0);
        DUE.is("too many", x.move(1, 0, 0, 0, 4), Due.BEYOND);
        DUE.is("too far", x.move(1, 1, 0, 0, 3), Due.BEYOND);
        DUE.is("too far", x.move(1, 0, 0, 6, 3), Due.BEYOND);
        DUE.is("i below", x.move(1, -1, 0, 0, 1), Due.BEYOND);
        DUE.is("j below", x.move(1, 0, 0, -1, 1), Due.BEYOND);
        DUE.is("n below", x.move(1, 0, 0, 0, -1), Due.BEYOND);
        DUE.is("wraps", x.move(1, 2, 0, 2, Integer.MAX_VALUE), Due.BEYOND);
        DUE.is("wraps", x.move(1, Integer.MAX_VALUE, 0, 0, 2), Due.BEYOND);
        DUE.is("wraps", x.move(1, Integer.MIN_VALUE, 0, 0, 2), Due.BEYOND);
        DUE.is("none stands there", x.move(1, 4, 0, 0, 0), Due.BEYOND);
        dueRow(x, 0, 1, 4, 5, 6, 7, 11, 12, 13);
        x.sheet(2, 8, 8);
        DUE.is("unlike bits", x.move(1, 0, 2, 0, 1), Due.KIND);
        DUE.is("kind ahead of beyond", x.move(2, -1, 1, 0, 1), Due.KIND);
        DUE.is("missing", x.move(3, 0, 2, 0, 1), Due.NONE);
        DUE.is("missing", x.move(2, 0, 3, 0, -1), Due.NONE);
        DUE.is("no such sheet", x.move(4, 0, 3, 0, 1), Due.BEYOND);
        DUE.is("no such sheet", x.move(3, 0, -1, 0, 1), Due.BEYOND);
        DUE.is("told KIND", x.told(5), 2);
    }

    private static void prices() {
        FigureTill x = new FigureTill();
        Due.fill(x, 0, 9999, 1, 3, 4, 5, 6, 7, 8, 9, 10);
        DUE.is("eight at most", x.prices(0), 8);
        dueRow(x, 0, 9999, 1, 3, 4, 5, 6, 7, 8);
        Due.fill(x, 0, 70, 71);
        DUE.is("two", x.prices(0), 2);
        dueRow(x, 0, 70, 71, 3);
        Due.fill(x, 0, 80, 10000, 82);
        DUE.is("up to what is refused", x.prices(0), 1);
        dueRow(x, 0, 80, 71, 3);
        Due.fill(x, 0, 0, 82);
        DUE.is("the first is refused", x.prices(0), 0);
        x.sheet(0, 8, 2);
        x.put(0, 0, 127);
        x.put(0, 1, 128);
        DUE.is("below 0, of eight bits", x.prices(0), 1);
        DUE.is("no ERROR", x.told(1), 0);
        x.sheet(0, 16, 0);
        DUE.is("no numbers", x.prices(0), 0);
        DUE.is("missing", x.prices(1), Due.NONE);
        DUE.is("no such sheet", x.prices(4), Due.BEYOND);
        DUE.is("no such sheet", x.prices(-1), Due.BEYOND);
    }
}
