/** The edges of VOICES: term 4 and promises 25 and 26, a test for each sentence. */
public final class EdgesVoicesTest {
    private static final Due DUE = new Due();
    private static final int MIN = Integer.MIN_VALUE;
    private static final int MAX = Integer.MAX_VALUE;

    public static void main(String[] args) {
        eachTillEachVoice();
        partedWhereMIsTheNumber();
        partedIsAllThatIsAnswered();
        cutTowardNothing();
        bodiesThatWrap();
        halvesThatAreCut();
        traceOfTheLatestVoice();
        traceOfARefusedVoice();
        traceAtFirst();
        longestTraces();
        bodyByItsPlace();
        answersLikeErrors();
        DUE.end();
    }

    private static void voice(int till, int km, int voice, int x, int due) {
        FigureTill t = new FigureTill();
        t.till(till, km);
        DUE.is("voice(" + till + " as " + km + ", " + voice + ", " + x + ")", t.voice(till, voice, x), due);
    }

    /** "k is its number, m as told": of the first till as of the last. */
    private static void eachTillEachVoice() {
        for (int till = 0; till < 4; till++) {
            for (int m = 0; m <= 9; m++) {
                voice(till, m, 0, 100, 100 + till);
                voice(till, m, 1, 100, 200 + 2 * till);
                voice(till, m, 2, 100, 200 + 2 * till - m);
                voice(till, 60 + m, 1, 100, 18 + m);
                voice(till, 60 + m, 2, 100, 18);
                voice(till, 50 + m, 2, 100, (6 * (100 + till - 9) - m) ^ till);
            }
            FigureTill t = new FigureTill();
            DUE.is("voice -1", t.voice(till, -1, 0), Due.BEYOND);
            DUE.is("voice 4", t.voice(till, 4, 0), Due.BEYOND);
        }
    }

    /** "(PARTED if that is 0)": at one m of each till, of each KIND. */
    private static void partedWhereMIsTheNumber() {
        for (int till = 0; till < 4; till++) {
            for (int km = 0; km < 70; km++) {
                FigureTill t = new FigureTill();
                t.till(till, km);
                int by = km % 10 - till;
                int kind = km / 10;
                int comes = kind == 1 ? 2 * (1 + till - 9) : kind == 5 ? 6 * (1 + till - 9) : 0;
                DUE.is("parts at " + km, t.voice(till, 3, 1000), by == 0 ? Due.PARTED : 1000 / by + comes);
                DUE.is("told PARTED", t.told(6), by == 0 ? 1 : 0);
            }
        }
    }

    /** "that is all that voice() answers then": the next one is as if there had been none. */
    private static void partedIsAllThatIsAnswered() {
        FigureTill t = new FigureTill();
        t.till(1, 11);
        t.till(2, 53);
        DUE.is("PARTED", t.voice(1, 3, MAX), Due.PARTED);
        DUE.is("it began", t.body(0), 21);
        DUE.is("what parts began", t.body(1), 13);
        DUE.is("what stands right didn't", t.count(6), 2);
        DUE.is("another voice of it", t.voice(1, 0, 7), -1);
        DUE.is("its BODIES alone", t.count(6), 2);
        DUE.is("its first", t.body(0), 20);
        DUE.is("another till", t.voice(2, 3, 7), 7 + 6 * (3 - 9));
        DUE.is("told PARTED", t.told(6), 1);
    }

    /** "x by (m - k), cut". */
    private static void cutTowardNothing() {
        voice(0, 2, 3, 7, 3);
        voice(0, 2, 3, -7, -3);
        voice(2, 0, 3, 7, -3);
        voice(2, 0, 3, -7, 3);
        voice(0, 9, 3, 8, 0);
        voice(0, 9, 3, -8, 0);
        voice(0, 9, 3, 9, 1);
        voice(0, 1, 3, MIN, MIN);
        voice(1, 0, 3, MAX, -MAX);
        // the least int by -1 wraps
        voice(1, 0, 3, MIN, MIN);
        voice(0, 2, 3, MIN, -1073741824);
        voice(0, 2, 3, MAX, 1073741823);
    }

    /** "(ints that wrap)": in each BODY that joins numbers. */
    private static void bodiesThatWrap() {
        voice(1, 0, 0, MAX, MIN);
        voice(3, 0, 0, MAX - 3, MAX);
        voice(0, 0, 1, 1 << 30, MIN);
        voice(0, 0, 1, (1 << 30) - 1, MAX - 1);
        voice(0, 9, 2, MIN / 2, MAX - 8);
        voice(0, 10, 0, MIN, MAX - 8);
        voice(0, 20, 1, MIN / 2, MIN);
        voice(0, 40, 1, MAX, 0);
        voice(0, 40, 1, (1 << 30) - 1, MIN);
        voice(0, 50, 0, 715827892, 3 * 715827883);
        voice(0, 50, 0, 715827891, MAX - 1);
        voice(3, 50, 2, MIN, (6 * (MIN + 3 - 9)) ^ 3);
        voice(0, 19, 3, MIN, MIN / 9 - 16);
        voice(0, 11, 3, MIN, MAX - 15);
    }

    /** "super.gives(x / 2)": of what is below 0, too. */
    private static void halvesThatAreCut() {
        int[] xs = {0, 1, -1, 2, -2, 3, -3, MAX, MIN};
        for (int x : xs) {
            voice(0, 30, 2, x, 2 * (x / 2));
            voice(3, 39, 2, x, 2 * (x / 2 + 3) - 9);
        }
    }

    private static void trace(FigureTill t, int... due) {
        DUE.is("BODIES", t.count(6), due.length);
        for (int i = 0; i < due.length; i++) {
            DUE.is("BODY " + i, t.body(i), due[i]);
        }
        DUE.is("none such", t.body(due.length), Due.NONE);
    }

    /** "of the latest voice()": nothing is left of a longer one ahead. */
    private static void traceOfTheLatestVoice() {
        FigureTill t = new FigureTill();
        t.till(1, 55);
        t.voice(1, 2, 7);
        trace(t, 51, 12, 11, 50, 20, 10);
        t.voice(0, 0, 7);
        trace(t, 10);
        t.voice(1, 3, 7);
        trace(t, 21, 13, 11, 50, 20, 10);
        t.till(1, 60);
        trace(t, 21, 13, 11, 50, 20, 10);
        t.voice(1, 0, 7);
        trace(t, 70);
        t.pays(0, 0);
        t.image();
        t.restore();
        trace(t, 70);
    }

    /** BEYOND changes nothing; PARTED is a voice. */
    private static void traceOfARefusedVoice() {
        FigureTill t = new FigureTill();
        t.voice(3, 2, 7);
        t.voice(4, 0, 7);
        trace(t, 12, 11, 10);
        t.voice(-1, 0, 7);
        trace(t, 12, 11, 10);
        t.voice(0, 4, 7);
        trace(t, 12, 11, 10);
        t.voice(0, -1, 7);
        trace(t, 12, 11, 10);
        t.voice(0, 3, 7);
        trace(t, 13);
    }

    private static void traceAtFirst() {
        FigureTill t = new FigureTill();
        trace(t);
        DUE.is("body(-1)", t.body(-1), Due.NONE);
        t.voice(9, 9, 9);
        trace(t);
    }

    /** The longest of each KIND; none comes to 30, so "the first 30" is never less than all. */
    private static void longestTraces() {
        int[] longest = {3, 5, 4, 4, 5, 6, 4};
        for (int kind = 0; kind < 7; kind++) {
            FigureTill t = new FigureTill();
            t.till(3, 10 * kind);
            int most = 0;
            for (int voice = 0; voice < 4; voice++) {
                t.voice(3, voice, 7);
                most = Math.max(most, t.count(6));
            }
            DUE.is("the most BODIES of KIND " + kind, most, longest[kind]);
        }
    }

    /** "THE TRACE's i-th. NONE: there is none such." */
    private static void bodyByItsPlace() {
        FigureTill t = new FigureTill();
        t.till(0, 51);
        t.voice(0, 2, 7);
        DUE.is("the first", t.body(0), 51);
        DUE.is("the last", t.body(5), 10);
        int[] none = {6, -1, 29, 30, 31, MIN, MAX};
        for (int i : none) {
            DUE.is("body(" + i + ")", t.body(i), Due.NONE);
        }
        DUE.is("told NONE", t.told(2), none.length);
        DUE.is("told BEYOND", t.told(1), 0);
    }

    /** A voice may answer any number: one like an ERROR is none. */
    private static void answersLikeErrors() {
        FigureTill t = new FigureTill();
        for (int k = 0; k <= 7; k++) {
            DUE.is("LOW - " + k, t.voice(3, 0, Due.LOW - k - 3), Due.LOW - k);
        }
        for (int k = 1; k <= 6; k++) {
            DUE.is("told " + k, t.told(k), 0);
        }
    }
}
