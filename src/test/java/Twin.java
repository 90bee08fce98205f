import java.util.ArrayList;
import java.util.List;

/**
 * Two objects that are made alike: one is asked for what the document refuses, the other isn't.
 * Behind that both answer alike, but for what told() tells.
 */
final class Twin {
    /** Calls of one object. */
    interface Acts {
        long on(FigureTill x);
    }

    private static final int ERRORS = 6;

    private final Due due;

    Twin(Due due) {
        this.due = due;
    }

    /** A call that answers an ERROR, and changes nothing but how many there were of it. */
    void refused(String call, long error, Acts act) {
        refused(call, error, Twin::busy, act);
    }

    /** Like that, of an object that has been made ready in another way. */
    void refused(String call, long error, Acts ready, Acts act) {
        changes(call, error, ready, act, x -> 0);
    }

    /** A call that answers no ERROR, and changes nothing. */
    void asks(String call, Acts ready, Acts act) {
        FigureTill alike = new FigureTill();
        ready.on(alike);
        changes(call, act.on(alike), ready, act, x -> 0);
    }

    /** A call whose answer is due, and that changes what the calls like it change, no more. */
    void changes(String call, long answer, Acts ready, Acts act, Acts like) {
        FigureTill asked = new FigureTill();
        FigureTill other = new FigureTill();
        ready.on(asked);
        ready.on(other);
        due.is(call, act.on(asked), answer);
        like.on(other);
        for (int k = 1; k <= ERRORS; k++) {
            int more = answer == Due.LOW - k ? 1 : 0;
            due.is(call + ", then told(" + k + ")", asked.told(k), other.told(k) + more);
        }
        List<Long> is = all(asked);
        List<Long> was = all(other);
        for (int i = 0; i < was.size(); i++) {
            due.is(call + ", then the object's answer " + i, is.get(i), was.get(i));
        }
    }

    /** Something of all that an object can hold; SHEET 2 is missing. */
    static long busy(FigureTill x) {
        int[] kms = {63, 55, 48, 13};
        for (int i = 0; i < 4; i++) {
            x.till(i, kms[i]);
            x.thing(2 * i, 0, 31 + i);
            x.thing(i, 1, 7 * i + 1);
            x.thing(i + 4, 2, 20 + i);
        }
        Due.law(x, 0, "s*3+k-m");
        Due.law(x, 1, "p%7+t");
        fed(x, 0x2B6BL, 2);
        x.tell(2);
        x.seed(1234567);
        x.sheet(0, 8, 5);
        x.put(0, 1, 2);
        x.put(0, 4, 3);
        x.go(0, 0);
        x.image();
        x.go(0, 1);
        x.draws(3);
        x.thing(3, 0, 77);
        fed(x, 0x33L, 1);
        x.tell(5);
        Due.fill(x, 1, 1, 0, 0, 0, 0, 0, 0, 10);
        x.sheet(3, 16, 9);
        for (int i = 0; i < 4; i++) {
            x.put(3, i, 8);
        }
        return x.voice(1, 2, 7);
    }

    private static void fed(FigureTill x, long word, int n) {
        x.feed(word, n);
    }

    /** All that an object answers, of what it holds and of what its IMAGE holds. */
    private static List<Long> all(FigureTill x) {
        List<Long> answers = new ArrayList<>();
        trace(x, answers);
        shop(x, answers);
        sheets(x, answers);
        spent(x, answers);
        answers.add((long) x.restore());
        shop(x, answers);
        spent(x, answers);
        answers.add((long) x.image());
        return answers;
    }

    private static void trace(FigureTill x, List<Long> answers) {
        answers.add((long) x.count(6));
        for (int i = 0; i < 7; i++) {
            answers.add((long) x.body(i));
        }
    }

    private static void shop(FigureTill x, List<Long> answers) {
        for (int thing = 0; thing < 8; thing++) {
            for (int what = 0; what < 4; what++) {
                answers.add((long) x.thingIs(thing, what));
            }
        }
        for (int till = 0; till < 4; till++) {
            answers.add((long) x.tillIs(till, 0));
            answers.add((long) x.tillIs(till, 1));
            answers.add((long) x.asks(till, 137, 4));
        }
        for (int what = 0; what < 8; what++) {
            answers.add((long) (what == 6 ? 0 : x.count(what)));
        }
    }

    private static void sheets(FigureTill x, List<Long> answers) {
        for (int sheet = 0; sheet < 4; sheet++) {
            answers.add((long) x.basket(sheet, 0));
            answers.add((long) x.basket(sheet, 1));
            answers.add((long) x.move(sheet, 0, 0, 0, 0));
            answers.add((long) x.prices(sheet));
            for (int thing = 0; thing < 8; thing++) {
                answers.add((long) x.thingIs(thing, 0));
            }
            int n = 0;
            while (n < 24 && x.put(sheet, n, 1) == 1) {
                n++;
            }
            answers.add((long) n);
        }
    }

    /** What can only be told by using it up: THE TAPE, and the numbers that wait. */
    private static void spent(FigureTill x, List<Long> answers) {
        answers.add((long) x.check(2));
        answers.add((long) x.text(0));
        answers.add((long) x.asks(0, 137, 4));
        answers.add((long) x.text(1));
        answers.add((long) x.untell(0));
        answers.add((long) x.untell(1));
    }
}
