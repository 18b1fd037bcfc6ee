/** The bounds of KINDS, IMAGES, counts and THE TRACE: promises 28 to 32. Each test is of one sentence of the document. */
public final class KindsBoundsTest extends Checks {
    private static final int[] BODIES = {1, 11, 101, 1011, 10101, 100001};

    public static void main(String[] args) {
        kindsAndDeeds();
        aMarkOfTheDay();
        aMarkOfTheHeight();
        aMarkLessTheRow();
        aMarkTimesTwo();
        aMarkOfTheClouds();
        aMarkOfTheSameAct();
        noIsNoMark();
        traceOfTheBodies();
        refusedMarksLeaveNoTrace();
        theTraceGoesOn();
        imagesZeroAndOne();
        noneWasKept();
        badAheadOfState();
        anImageOfTheDay();
        anImageOfWhereAllAre();
        anImageOfSmoke();
        anImageOfDeeds();
        anImageOfWhoWasKept();
        anImageOfWhatMayBeUndone();
        nothingElse();
        keptAnew();
        twoImages();
        imagesAreGone();
        imagesStay();
        counts();
        fullCounts();
        lastOf512Calls();
        end();
    }

    private static void kindsAndDeeds() {
        says("MARK. NO: BAD.");
        SquareLate x = told("p 1 0;");
        due("no deed", x.mark(0, 0), NO);
        for (int n = 1; n <= 12; n++) {
            x.deed(0, 0);
            range("mark(0, i) of " + n, i -> x.mark(0, i), 0, n - 1, NO);
        }
        range("mark(5, i)", i -> x.mark(5, i), 0, 11, NO);
        range("mark(kind, 0)", kind -> x.mark(kind, 0), 0, 5, NO);
        range("mark(kind, 11)", kind -> x.mark(kind, 11), 0, 5, NO);
        x.undo();
        due("of one undone", x.mark(0, 11), NO);
    }

    private static void aMarkOfTheDay() {
        says("DEED its DAY (1)");
        SquareLate x = told("p 1 0;c 99;");
        x.deed(0, 0);
        pass(x, 99);
        x.deed(0, 0);
        due("of day 0", x.mark(0, 0), 0);
        due("of day 99, though not seen", x.mark(0, 1), 99);
    }

    private static void aMarkOfTheHeight() {
        says("POSED up, and the HEIGHT of who did it (10)");
        SquareLate x = told("p 1 0;p 9 24;");
        x.deed(0, 0);
        x.deed(1, 0);
        pass(x, 99);
        x.deed(1, 7);
        x.die(1);
        due("of 1 on day 0", x.mark(1, 0), 1);
        due("of 9 on day 0", x.mark(1, 1), 9);
        due("of 9 on day 99, dead since", x.mark(1, 2), 108);
    }

    private static void aMarkLessTheRow() {
        says("HIDDEN up less the ROW where it was done (100)");
        for (int c = 0; c < 25; c++) {
            SquareLate x = told("p 1 " + c + ";");
            x.deed(0, 0);
            x.walk(0, c == 0 ? 24 : 0);
            due("in " + c + ", gone since", x.mark(2, 0), -(c / 5));
        }
        SquareLate x = told("p 1 24;");
        pass(x, 99);
        x.deed(0, 0);
        due("in the last row on day 99", x.mark(2, 0), 95);
    }

    private static void aMarkTimesTwo() {
        says("LAWFUL up times 2 (1000)");
        SquareLate x = told("p 1 24;p 9 24;");
        x.deed(0, 0);
        pass(x, 99);
        x.deed(1, 0);
        due("the least", x.mark(3, 0), 2);
        due("the greatest", x.mark(3, 1), 216);
    }

    private static void aMarkOfTheClouds() {
        says("CLOUDED up, and how many CLOUDS are told (10000)");
        SquareLate none = told("p 1 24;");
        none.deed(0, 0);
        due("no cloud", none.mark(4, 0), -4);
        SquareLate eight = told("p 1 0;c92;c93;c94;c95;c96;c97;c98;c99;");
        eight.deed(0, 0);
        due("eight clouds to come", eight.mark(4, 0), 8);
        pass(eight, 99);
        eight.deed(0, 0);
        due("eight clouds, all but by", eight.mark(4, 1), 107);
    }

    private static void aMarkOfTheSameAct() {
        says("TWICE up, and how many DEEDS of its ACT there are (100000)");
        SquareLate x = told("p 1 0;p 1 5;");
        for (int n = 1; n <= 11; n++) {
            x.deed(n % 2, 7);
            due("of " + n, x.mark(5, 0), n);
        }
        x.deed(0, 6);
        due("one of another act", x.mark(5, 11), 1);
        due("the others as before", x.mark(5, 0), 11);
        x.undo();
        x.day();
        x.deed(0, 7);
        due("twelve, of day 0", x.mark(5, 10), 12);
        due("twelve, of day 1", x.mark(5, 11), 13);
    }

    private static void noIsNoMark() {
        says("NO = -1000000: What none is, where a number may be below 0.");
        SquareLate x = told("p 1 24;");
        x.deed(0, 0);
        due("a mark below 0", x.mark(2, 0), -4);
        due("none", x.mark(2, 1), SquareLate.NO);
        due("NO", SquareLate.NO, -1000000);
        SquareLate y = told("p 1 5;");
        y.deed(0, 0);
        due("a mark that is as BAD", y.mark(2, 0), -1);
    }

    private static void traceOfTheBodies() {
        says("numbers in brackets come to THE TRACE as often as mark() asks that body");
        SquareLate x = told("p 1 0;");
        x.deed(0, 0);
        due("at first", x.trace(), 0);
        long sum = 0;
        for (int kind = 0; kind < 6; kind++) {
            for (int times = 0; times < 2; times++) {
                x.mark(kind, 0);
                sum += BODIES[kind];
                due("behind kind " + kind, x.trace(), sum);
                due("asked again", x.trace(), sum);
            }
        }
    }

    private static void refusedMarksLeaveNoTrace() {
        says("Refused, and nothing changes");
        SquareLate x = told("p 1 0;");
        for (int kind = -1; kind <= 6; kind++) {
            x.mark(kind, 0);
        }
        due("no deed", x.trace(), 0);
        x.deed(0, 0);
        x.mark(-1, 0);
        x.mark(6, 0);
        x.mark(5, -1);
        x.mark(5, 1);
        due("kinds and deeds that are none", x.trace(), 0);
        x.mark(5, 0);
        x.mark(6, 0);
        due("and behind one that is", x.trace(), 100001);
    }

    private static void theTraceGoesOn() {
        says("keep NOW (..); nothing else");
        SquareLate x = told("p 1 0;");
        x.deed(0, 0);
        x.keep(0);
        x.mark(1, 0);
        x.back(0);
        due("back", x.trace(), 11);
        x.undo();
        due("undo", x.trace(), 11);
        x.square();
        due("square", x.trace(), 11);
    }

    private static void imagesZeroAndOne() {
        says("IMAGES 0, 1 .. BAD");
        SquareLate x = told("p 1 0;");
        range("keep", x::keep, 0, 1);
        range("back", x::back, 0, 1);
    }

    private static void noneWasKept() {
        says("STATE: none was kept.");
        SquareLate x = told("p 1 0;");
        due("0", x.back(0), STATE);
        due("1", x.back(1), STATE);
        due("0 is kept", x.keep(0), 0);
        due("1 is not", x.back(1), STATE);
        due("0 is there", x.back(0), 0);
        SquareLate y = new SquareLate();
        due("1 is kept by a new object", y.keep(1), 0);
        due("0 is not", y.back(0), STATE);
        due("1 is there", y.back(1), 0);
    }

    private static void badAheadOfState() {
        says("Refused, and nothing changes, the first of these: BAD .., STATE ..");
        SquareLate x = told("p 1 0;");
        due("image 2, none kept", x.back(2), BAD);
        due("image -1, none kept", x.back(-1), BAD);
        x.keep(2);
        x.keep(-1);
        due("a refused keep keeps none, 0", x.back(0), STATE);
        due("a refused keep keeps none, 1", x.back(1), STATE);
    }

    private static void anImageOfTheDay() {
        says("An IMAGE is kept: THE DAY.");
        SquareLate x = told("p 1 0;c 99;");
        due("kept on 0", x.keep(0), 0);
        pass(x, 99);
        due("kept on 99", x.keep(1), 99);
        due("back to 0", x.back(0), 0);
        due("it is 0", x.now(0), 0);
        due("without its cloud", x.now(2), 0);
        due("on to 99", x.back(1), 99);
        due("it is 99", x.now(0), 99);
        due("with its cloud", x.now(2), 1);
        due("no day more", x.day(), STATE);
        x.back(0);
        due("a day more", x.day(), 1);
    }

    private static void anImageOfWhereAllAre() {
        says("keep NOW (.. where all are ..)");
        SquareLate x = told("p 1 0;p 2 24;p 3 25;p 4 5;p 5 9;p 6 12;");
        x.die(3);
        x.keep(1);
        int[] cells = {0, 24, 25, 26, 9, 12};
        x.walk(0, 25);
        x.die(1);
        x.walk(2, 24);
        x.walk(4, 0);
        x.die(5);
        x.back(1);
        for (int p = 0; p < 6; p++) {
            due("cell of " + p, x.person(p, 1), cells[p]);
            due("height of " + p, x.person(p, 0), p + 1);
        }
    }

    private static void anImageOfSmoke() {
        says("keep NOW (.. SMOKE ..)");
        SquareLate x = told("p 1 24;");
        x.smoke(0, 1);
        x.smoke(24, 1);
        x.keep(0);
        x.day();
        x.smoke(12, 1);
        x.back(0);
        due("smoke", x.now(3), 1 + (1 << 24));
        due("hidden", x.now(1), 0);
    }

    private static void anImageOfDeeds() {
        says("keep NOW (.. DEEDS ..)");
        SquareLate x = told("p 1 0;p 2 24;l 1;");
        x.keep(0);
        for (int i = 0; i < 12; i++) {
            x.deed(1, 7);
        }
        x.keep(1);
        due("back to none", x.back(0), 0);
        due("no deed", x.count(3), 0);
        due("of none", x.done(0, 0), BAD);
        for (int i = 0; i < 12; i++) {
            due("room for " + i, x.deed(0, 3), 1);
        }
        x.back(1);
        due("twelve", x.count(3), 12);
        due("full", x.deed(0, 0), FULL);
        for (int i = 0; i < 12; i++) {
            due("who did " + i, x.done(i, 0), 1);
            due("the act of " + i, x.done(i, 1), 7);
        }
        due("holder", x.holder(7, 1), 1);
        due("no other", x.holder(3, 1), NONE);
    }

    private static void anImageOfWhoWasKept() {
        says("keep NOW (.. who was KEPT ..)");
        SquareLate x = told("p 1 0;p 1 1;l 1;");
        pass(x, 99);
        x.keep(0);
        undo(x, 10);
        x.walk(0, 25);
        pass(x, 9);
        due("another last day", x.stood(97, 1), 2);
        x.back(0);
        for (int day = 0; day < 99; day++) {
            due("KEPT on " + day, x.stood(day, 1), 3);
        }
        due("together", x.together(3), 99);
    }

    private static void anImageOfWhatMayBeUndone() {
        says("keep NOW (.. what may be UNDONE)");
        SquareLate x = told("p 1 0;");
        x.keep(1);
        for (int c = 1; c <= 11; c++) {
            x.walk(0, c);
        }
        x.keep(0);
        x.smoke(0, 1);
        x.day();
        x.back(0);
        due("ten", x.count(4), 10);
        for (int left = 9; left >= 0; left--) {
            due("left", x.undo(), left);
            due("where", x.person(0, 1), 1 + left);
        }
        due("none more", x.undo(), STATE);
        x.back(0);
        due("ten again", x.count(4), 10);
        x.back(1);
        due("nothing", x.count(4), 0);
        due("none", x.undo(), STATE);
    }

    private static void nothingElse() {
        says("keep NOW (..); nothing else");
        SquareLate x = told("p 1 0;l 3;c 5;r 0 1;");
        x.keep(0);
        write(x, "p 2 2;");
        x.back(0);
        due("THE TEXT stays", x.count(5), 6);
        due("LATE stays", x.now(4), 3);
        x.keep(1);
        due("image 0 is not of image 1", x.back(1), 0);
        due("THE TEXT is read", x.square(), 1);
        due("as it was", x.person(0, 1), 2);
    }

    private static void keptAnew() {
        says("An IMAGE is kept");
        SquareLate x = told("p 1 0;");
        x.keep(0);
        x.walk(0, 24);
        x.keep(0);
        x.walk(0, 12);
        x.back(0);
        due("as kept last", x.person(0, 1), 24);
        x.walk(0, 7);
        x.back(0);
        due("and again", x.person(0, 1), 24);
        due("how many may be undone", x.count(4), 1);
    }

    private static void twoImages() {
        says("IMAGES 0, 1 keep NOW");
        SquareLate x = told("p 1 0;");
        x.keep(0);
        x.walk(0, 1);
        x.keep(1);
        x.walk(0, 2);
        due("0", x.back(0), 0);
        due("where in 0", x.person(0, 1), 0);
        x.walk(0, 3);
        due("1", x.back(1), 0);
        due("where in 1", x.person(0, 1), 1);
        x.keep(0);
        x.walk(0, 4);
        x.back(0);
        due("0 as 1 was", x.person(0, 1), 1);
    }

    private static void imagesAreGone() {
        says("Read anew: .. IMAGES are gone");
        SquareLate x = told("p 1 0;");
        x.keep(0);
        x.keep(1);
        x.square();
        due("0", x.back(0), STATE);
        due("1", x.back(1), STATE);
        due("kept again", x.keep(1), 0);
        due("0 is none", x.back(0), STATE);
        due("1 is one", x.back(1), 0);
    }

    private static void imagesStay() {
        says("-10 less FAULT: nothing changes");
        SquareLate x = told("p 1 0;");
        x.walk(0, 1);
        x.keep(0);
        x.undo();
        due("undo leaves them", x.back(0), 0);
        due("as kept", x.person(0, 1), 1);
        write(x, "p");
        due("a fault", x.square(), -11);
        x.clear();
        due("leaves them", x.back(0), 0);
        due("1 is none", x.back(1), STATE);
    }

    private static void counts() {
        says("0 PEOPLE, 1 CLOUDS, 2 RULES, 3 DEEDS, 4 how many may be UNDONE, 5 bytes of THE TEXT. BAD.");
        SquareLate x = told("p 1 0;");
        range("count", x::count, 0, 5);
        range("count of a new object", new SquareLate()::count, 0, 5);
    }

    private static void fullCounts() {
        says("PEOPLE .. (6 of them at most) .. CLOUDS .. 8 at most .. RULES (6 at most) .. DEED (12 at most) .. 10 are known");
        SquareLate x = told("p1 0;".repeat(6) + "c0;c1;c2;c3;c4;c5;c6;c7;" + "r0 1;".repeat(6));
        for (int i = 0; i < 12; i++) {
            x.deed(0, 0);
        }
        write(x, "x".repeat(201));
        x.deed(0, 0);
        int[] full = {6, 8, 6, 12, 10, 200};
        for (int what = 0; what < 6; what++) {
            due("count(" + what + ")", x.count(what), full[what]);
        }
    }

    /** 8 calls to tell and do, 503 marks, and the last one. */
    private static void lastOf512Calls() {
        says("An object is used for at most 512 calls after it has been made");
        SquareLate x = told("p1 0;");
        x.deed(0, 0);
        x.keep(0);
        for (int i = 0; i < 503; i++) {
            x.mark(5, 0);
        }
        due("call 512", x.trace(), 503 * 100001L);
    }
}
