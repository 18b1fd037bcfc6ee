import java.util.function.IntToLongFunction;

/** What the tests have in common: the answers that are due, and towns to ask. */
abstract class Checks {
    static final int BAD = -1, STATE = -2, FULL = -3, NONE = -9, NO = -1000000;
    static final int ALL_CELLS = (1 << 25) - 1;
    static final int[] FAR = {Integer.MIN_VALUE, -1000, -1, 1000, Integer.MAX_VALUE};

    private static int wrong = 0;
    private static String sentence = "";

    /** The document's words that the answers from here on are due by. */
    static void says(String words) {
        sentence = "\"" + words + "\": ";
    }

    static void due(String call, long got, long want) {
        if (got != want) {
            wrong++;
            System.out.println(sentence + call + " answered " + got + ", due is " + want);
        }
    }

    /** Every number from least to most is allowed; those next to them and those far off are BAD. */
    static void range(String call, IntToLongFunction ask, int least, int most) {
        range(call, ask, least, most, BAD);
    }

    static void range(String call, IntToLongFunction ask, int least, int most, int refusal) {
        for (int n = least; n <= most; n++) {
            due(call + " of " + n + " is allowed", ask.applyAsLong(n) == refusal ? 0 : 1, 1);
        }
        due(call + " of " + (least - 1), ask.applyAsLong(least - 1), refusal);
        due(call + " of " + (most + 1), ask.applyAsLong(most + 1), refusal);
        for (int far : FAR) {
            due(call + " of " + far, ask.applyAsLong(far), refusal);
        }
    }

    static void write(SquareLate x, String text) {
        for (int i = 0; i < text.length(); i++) {
            x.type(text.charAt(i));
        }
    }

    static SquareLate told(String text) {
        SquareLate x = new SquareLate();
        write(x, text);
        int items = x.square();
        due("square() of '" + text + "' tells all", items < 0 ? items : 0, 0);
        return x;
    }

    static void pass(SquareLate x, int days) {
        for (int i = 0; i < days; i++) {
            x.day();
        }
    }

    static void undo(SquareLate x, int times) {
        for (int i = 0; i < times; i++) {
            x.undo();
        }
    }

    static void end() {
        System.out.println(wrong == 0 ? "all answers are as due" : wrong + " answers are not as due");
        if (wrong != 0) {
            System.exit(1);
        }
    }
}
