/** Promises 25 and 26. */
public final class VoicesTest {
    private static final Due DUE = new Due();

    public static void main(String[] args) {
        bodies();
        parted();
        wrong();
        wraps();
        DUE.end();
    }

    private static void due(int till, int km, int voice, int x, int answer, int... bodies) {
        FigureTill t = new FigureTill();
        t.till(till, km);
        String call = "voice(" + till + " as " + km + ", " + voice + ", " + x + ")";
        DUE.is(call, t.voice(till, voice, x), answer);
        DUE.is(call + ": bodies", t.count(6), bodies.length);
        for (int i = 0; i < bodies.length; i++) {
            DUE.is(call + ": body " + i, t.body(i), bodies[i]);
        }
        DUE.is(call + ": none such", t.body(bodies.length), Due.NONE);
        DUE.is(call + ": none such", t.body(-1), Due.NONE);
        DUE.is(call + ": told NONE", t.told(2), 2);
    }

    private static void bodies() {
        due(2, 5, 0, 7, 9, 10);
        due(2, 5, 1, 7, 18, 11, 10);
        due(2, 5, 2, 7, 13, 12, 11, 10);
        due(2, 5, 3, -7, -2, 13);
        due(2, 15, 0, 7, 0, 20, 10);
        due(2, 15, 1, 7, 0, 11, 20, 10);
        due(2, 15, 2, 7, -5, 12, 11, 20, 10);
        due(2, 15, 3, 7, 2 - 12, 21, 13, 11, 20, 10);
        due(2, 25, 0, 7, 9, 10);
        due(2, 25, 1, 7, -18, 30, 11, 10);
        due(2, 25, 2, 7, -23, 12, 30, 11, 10);
        due(2, 25, 3, 7, 2, 13);
        due(2, 35, 1, 7, 18, 11, 10);
        due(2, 35, 2, -7, -7, 40, 12, 11, 10);
        due(2, 45, 1, 7, -20, 60, 30, 11, 10);
        due(2, 45, 2, 7, -25, 12, 60, 30, 11, 10);
        due(2, 55, 0, 8, 3, 50, 20, 10);
        due(2, 55, 1, 8, 6, 11, 50, 20, 10);
        due(2, 55, 2, 8, 1 ^ 2, 51, 12, 11, 50, 20, 10);
        due(2, 55, 3, 8, 2 - 36, 21, 13, 11, 50, 20, 10);
        due(2, 65, 0, 7, 9, 70);
        due(2, 65, 1, 7, 23, 71, 11, 70);
        due(2, 65, 2, 7, 18, 12, 71, 11, 70);
        due(2, 65, 3, 7, 2, 13);
    }

    private static void parted() {
        due(2, 2, 3, 7, Due.PARTED, 13);
        due(3, 63, 3, 7, Due.PARTED, 13);
        due(2, 12, 3, 7, Due.PARTED, 21, 13);
        due(2, 52, 3, 7, Due.PARTED, 21, 13);
        FigureTill x = new FigureTill();
        DUE.is("parted", x.voice(0, 3, 0), Due.PARTED);
        DUE.is("told PARTED", x.told(6), 1);
        DUE.is("next", x.voice(1, 3, 5), -5);
        DUE.is("told PARTED", x.told(6), 1);
    }

    private static void wrong() {
        FigureTill x = new FigureTill();
        x.voice(0, 2, 3);
        DUE.is("no such till", x.voice(4, 0, 0), Due.BEYOND);
        DUE.is("no such till", x.voice(-1, 0, 0), Due.BEYOND);
        DUE.is("no such voice", x.voice(0, 4, 0), Due.BEYOND);
        DUE.is("no such voice", x.voice(0, -1, 0), Due.BEYOND);
        DUE.is("the trace stays", x.count(6), 3);
        DUE.is("the trace stays", x.body(0), 12);
        DUE.is("none such", x.body(Integer.MIN_VALUE), Due.NONE);
        DUE.is("none such", x.body(Integer.MAX_VALUE), Due.NONE);
    }

    private static void wraps() {
        due(3, 0, 0, Integer.MAX_VALUE, Integer.MIN_VALUE + 2, 10);
        due(1, 0, 3, Integer.MIN_VALUE, Integer.MIN_VALUE, 13);
        due(0, 0, 1, Integer.MAX_VALUE, -2, 11, 10);
        FigureTill x = new FigureTill();
        DUE.is("like an ERROR", x.voice(0, 0, Due.PARTED), Due.PARTED);
        DUE.is("is none", x.told(6), 0);
    }
}
