/** Compares answers with those that are due, and ends a test. */
final class Due {
    static final int LOW = -1000000000;
    static final int BEYOND = LOW - 1;
    static final int NONE = LOW - 2;
    static final int STATE = LOW - 3;
    static final int FULL = LOW - 4;
    static final int KIND = LOW - 5;
    static final int PARTED = LOW - 6;

    private int asked = 0;
    private int wrong = 0;

    void is(String call, long got, long want) {
        asked++;
        if (got != want) {
            wrong++;
            System.out.println(call + " answered " + got + ", due is " + want);
        }
    }

    /** Ends with exit code 1 if an answer was wrong, or none was asked for. */
    void end() {
        System.out.println(asked + " answers, " + wrong + " wrong");
        if (wrong != 0 || asked == 0) {
            System.exit(1);
        }
    }

    /** Feeds a text to THE TAPE. */
    static void feed(FigureTill x, String text) {
        for (int i = 0; i < text.length(); i++) {
            x.feed(text.charAt(i), 1);
        }
    }

    /** Feeds a text, and makes it the TEXT of a USE. */
    static int law(FigureTill x, int use, String text) {
        feed(x, text);
        return x.text(use);
    }

    /** A SHEET of 32 bits with these numbers. */
    static void fill(FigureTill x, int sheet, int... numbers) {
        x.sheet(sheet, 32, numbers.length);
        for (int i = 0; i < numbers.length; i++) {
            x.put(sheet, i, numbers[i]);
        }
    }
}
