/** Promises 31 to 36. */
public final class ImagesTest {
    private static final Due DUE = new Due();

    public static void main(String[] args) {
        images();
        twoImages();
        waiting();
        counts();
        told();
        DUE.end();
    }

    private static void images() {
        FigureTill x = new FigureTill();
        DUE.is("no image", x.restore(), Due.NONE);
        x.thing(1, 0, 50);
        x.thing(1, 1, 51);
        x.till(2, 64);
        Due.law(x, 0, "s+m");
        Due.law(x, 1, "t");
        Due.feed(x, "k+1");
        x.tell(2);
        x.seed(77);
        Due.fill(x, 0, 1, 1);
        x.go(0, 2);
        x.voice(0, 2, 1);
        DUE.is("image", x.image(), 1);
        x.thing(1, 0, 60);
        x.thing(1, 1, 61);
        x.thing(1, 2, 62);
        x.till(2, 33);
        x.text(0);
        Due.feed(x, "s*99");
        x.untell(1);
        x.check(2);
        x.tell(5);
        x.tell(6);
        x.go(0, 0);
        x.draws(9);
        x.voice(0, 0, 1);
        Due.fill(x, 0, 3);
        x.body(9);
        DUE.is("restore", x.restore(), 1);
        int[] counts = {1, 55, 51, 70, 3, 1, 1, 77};
        for (int i = 0; i < 8; i++) {
            DUE.is("count " + i, x.count(i), counts[i]);
        }
        DUE.is("price", x.thingIs(1, 0), 50);
        DUE.is("cost", x.thingIs(1, 1), 51);
        DUE.is("stock", x.thingIs(1, 2), 8);
        DUE.is("value", x.thingIs(1, 3), 1);
        DUE.is("till", x.till(2, 64), 64);
        DUE.is("text", x.asks(2, 100, 2), 104);
        DUE.is("sheets stay", x.basket(0, 0), 3);
        DUE.is("the trace stays", x.body(0), 10);
        DUE.is("told stays", x.told(2), 2);
        DUE.is("the tape", x.text(0), 1);
        DUE.is("its text", x.asks(2, 100, 2), 3);
        DUE.is("what waits", x.check(2), 0);
        x.tell(3);
        DUE.is("what waits", x.check(2), 1);
        DUE.is("image", x.image(), 2);
        x.restore();
        DUE.is("how often stays", x.image(), 3);
    }

    private static void twoImages() {
        FigureTill x = new FigureTill();
        DUE.is("image", x.image(), 1);
        x.till(0, 69);
        x.thing(0, 0, 7);
        DUE.is("image in place of one ahead", x.image(), 2);
        x.till(0, 11);
        x.thing(0, 0, 8);
        DUE.is("restore", x.restore(), 0);
        DUE.is("till", x.till(0, 12), 69);
        DUE.is("price", x.thing(0, 0, 9), 7);
        DUE.is("it stays", x.restore(), 0);
        DUE.is("till", x.till(0, 12), 69);
        DUE.is("price", x.thing(0, 0, 9), 7);
    }

    private static void waiting() {
        FigureTill x = new FigureTill();
        for (int i = 1; i <= 24; i++) {
            DUE.is("tell", x.tell(x.figures(i, 10)), i);
        }
        DUE.is("full", x.tell(0), Due.FULL);
        DUE.is("told FULL", x.told(4), 1);
        DUE.is("waiting", x.count(5), 24);
        DUE.is("all as asked", x.check(0), 0);
        DUE.is("none waits", x.count(5), 0);
        for (int i = 1; i <= 24; i++) {
            x.tell(i == 24 ? 0 : x.figures(i, 10));
        }
        DUE.is("the last one is wrong", x.check(1), 24);
        DUE.is("none waits", x.check(1), 0);
        x.tell(1);
        x.tell(9);
        x.tell(9);
        DUE.is("no such till", x.check(-1), Due.BEYOND);
        DUE.is("none waits then", x.count(5), 0);
        x.tell(7);
        DUE.is("no such till", x.check(4), Due.BEYOND);
        DUE.is("none waits then", x.check(0), 0);
        x.till(3, 62);
        Due.law(x, 0, "s*10+k*5+m");
        x.tell(17);
        x.tell(27);
        DUE.is("one thing each", x.check(3), 0);
        x.tell(-1);
        DUE.is("any number", x.check(3), 1);
    }

    private static void counts() {
        FigureTill x = new FigureTill();
        x.thing(3, 2, 99);
        DUE.is("stock of all", x.count(3), 162);
        DUE.is("no such what", x.count(8), Due.BEYOND);
        DUE.is("no such what", x.count(-1), Due.BEYOND);
    }

    private static void told() {
        FigureTill x = new FigureTill();
        x.thing(9, 0, 0);
        x.pays(0, 0);
        x.body(0);
        x.sheet(0, 8, -1);
        x.as(0, 1);
        x.voice(0, 3, 0);
        Due.fill(x, 0, 9, 9, 9, 9);
        x.pays(0, 0);
        int[] due = {1, 2, 1, 1, 1, 1};
        for (int k = 1; k <= 6; k++) {
            DUE.is("told " + k, x.told(k), due[k - 1]);
        }
        DUE.is("another k", x.told(0), Due.BEYOND);
        DUE.is("another k", x.told(7), Due.BEYOND);
        DUE.is("another k", x.told(-1), Due.BEYOND);
        DUE.is("counted, too", x.told(1), 4);
    }
}
