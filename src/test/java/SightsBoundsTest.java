import java.math.BigInteger;

/** The bounds of sights: promises 20 to 27. Each test is of one sentence of the document. */
public final class SightsBoundsTest extends Checks {
    public static void main(String[] args) {
        bitsToHide();
        noneIsInBoth();
        whatOfHide();
        theFewestCells();
        theLeastSet();
        whoIsSeenNow();
        othersStaySo();
        nothingToHide();
        hideAsksNoCloud();
        whoBlocksWhom();
        oneAndTheSame();
        oneNotInTheSquare();
        aWalkerWhoIsNowhere();
        cellsThatBlock();
        whereHeIsNowToo();
        seenNowOrNot();
        blocksAskNoCloud();
        whoHides();
        hidesAlone();
        hidesFromAwayAndNowhere();
        hidesAskNoCloud();
        oddsOfKDays();
        inLeastTerms();
        oftenEnough();
        theFewestDays();
        aDayThatWentBy();
        ofAHeight();
        daysOfOne();
        theFirstAndTheLast();
        onDayZeroAlone();
        neverKept();
        bitsTogether();
        onHowManyDays();
        end();
    }

    private static void bitsToHide() {
        says("HIDE some (bits) and not others .. BAD (bits of none");
        for (int n = 0; n <= 6; n++) {
            SquareLate x = told("p 1 0;".repeat(n));
            int all = (1 << n) - 1;
            range("hide(some, 0, 0), of " + n, some -> x.hide(some, 0, 0), 0, all);
            range("hide(0, others, 0), of " + n, others -> x.hide(0, others, 0), 0, all);
        }
        SquareLate x = told("p 1 0;p 1 1;");
        due("one bit of none among others", x.hide(5, 0, 0), BAD);
        due("one bit of none among those who stay", x.hide(1, 4, 0), BAD);
        x.die(0);
        x.walk(1, 25);
        due("the dead and those away are people", x.hide(3, 0, 0), 0);
    }

    private static void noneIsInBoth() {
        says("none is in both .. one in both, too");
        SquareLate x = told("p 1 0;p 1 1;p 1 25;");
        for (int some = 0; some < 8; some++) {
            for (int others = 0; others < 8; others++) {
                boolean both = (some & others) != 0;
                due(some + " and " + others, x.hide(some, others, 0) == BAD ? 1 : 0, both ? 1 : 0);
            }
        }
        due("in both, though away", x.hide(4, 4, 1), BAD);
    }

    private static void whatOfHide() {
        says("how many CELLS (what = 0), the set (1); NONE. BAD");
        SquareLate x = told("p 1 24;p 2 4;");
        range("hide(1, 0, what)", what -> x.hide(1, 0, what), 0, 1);
        range("hide(0, 0, what)", what -> x.hide(0, 0, what), 0, 1);
        SquareLate y = told("p 1 12;p 2 12;");
        due("none, how many", y.hide(1, 2, 0), NONE);
        due("none, the set", y.hide(1, 2, 1), NONE);
        due("none, what 2", y.hide(1, 2, 2), BAD);
        due("none, what -1", y.hide(1, 2, -1), BAD);
    }

    private static void theFewestCells() {
        says("the fewest CELLS on which SMOKE more hides all of the first");
        SquareLate x = told("p 1 0;p 1 1;p 1 2;p 1 3;p 1 24;p 2 5;");
        int[] set = {0, 1, 2, 4, 8, 16, 1};
        int[] some = {0, 1, 2, 4, 8, 16, 32};
        for (int i = 0; i < some.length; i++) {
            due("hide " + some[i], x.hide(some[i], 0, 0), i == 0 ? 0 : 1);
            due("by", x.hide(some[i], 0, 1), set[i]);
        }
        due("all of five columns", x.hide(63, 0, 0), 5);
        due("by the first row", x.hide(63, 0, 1), 31);
        due("two of one column", x.hide(33, 0, 0), 1);
        SquareLate y = told("p 1 0;p 2 5;p 3 10;p 4 15;p 5 20;");
        due("five of one column", y.hide(31, 0, 1), 1);
    }

    /** One to hide in the last ROW, another ahead of him in each ROW who is to stay. */
    private static void theLeastSet() {
        says("of several the least set of CELLS (as bits 0 .. 24)");
        for (int column = 0; column < 5; column++) {
            for (int row = 0; row < 4; row++) {
                SquareLate x = told("p 9 " + (20 + column) + ";p 1 " + (5 * row + column) + ";");
                due("just behind row " + row, x.hide(1, 2, 1), 1 << (5 * (row + 1) + column));
                due("in the first row", x.hide(1, 0, 1), 1 << column);
            }
        }
        due("the last cell", told("p 9 24;p 1 19;").hide(1, 2, 1), 1 << 24);
        due("the first cell", told("p 9 20;").hide(1, 0, 1), 1);
        SquareLate two = told("p 9 20;p 9 24;p 1 15;");
        due("two columns", two.hide(3, 4, 1), (1 << 20) + (1 << 4));
    }

    private static void whoIsSeenNow() {
        says("all of the first that are SEEN now");
        SquareLate x = told("p 5 0;p 5 20;p 1 25;p 1 1;p 1 2;");
        x.die(3);
        x.smoke(2, 1);
        due("hidden by one", x.hide(2, 0, 0), 0);
        due("away", x.hide(4, 0, 0), 0);
        due("nowhere", x.hide(8, 0, 0), 0);
        due("in smoke", x.hide(16, 0, 0), 0);
        due("all of these", x.hide(30, 1, 1), 0);
        due("and one who is seen", x.hide(31, 0, 1), 1);
        due("nothing was put", x.now(3), 4);
    }

    private static void othersStaySo() {
        says("while of the others all that are SEEN now stay so");
        SquareLate x = told("p 1 7;p 2 12;p 3 17;p 3 22;");
        due("the one in the middle, not the first", x.hide(2, 1, 1), 1 << 12);
        due("the middle and the last", x.hide(6, 1, 1), 1 << 12);
        due("the last alone", x.hide(4, 3, 1), 1 << 17);
        due("the middle, not the last", x.hide(2, 4, 0), NONE);
        due("the first, not the last", x.hide(1, 4, 1), NONE);
        due("the last, not the one whom he hides", x.hide(4, 8, 1), 1 << 2);
        due("in one cell", told("p 1 24;p 2 24;").hide(1, 2, 0), NONE);
        SquareLate y = told("p 1 0;p 1 1;p 2 6;");
        due("one can be hidden, the other can't", y.hide(3, 4, 0), NONE);
        due("the one who can", y.hide(1, 6, 1), 1);
    }

    private static void nothingToHide() {
        says("the fewest CELLS");
        due("nobody at all, how many", new SquareLate().hide(0, 0, 0), 0);
        due("nobody at all, the set", new SquareLate().hide(0, 0, 1), 0);
        due("no one of six", told("p 1 0;".repeat(6)).hide(0, 63, 0), 0);
    }

    private static void hideAsksNoCloud() {
        says("SEEN now (CLOUD not asked)");
        SquareLate x = told("p 1 4;p 2 9;c 0;");
        due("nobody is seen", x.now(1), 0);
        due("one is to be hidden", x.hide(2, 1, 1), 1 << 9);
        due("the other can't be", x.hide(1, 2, 0), NONE);
    }

    private static void whoBlocksWhom() {
        says("BLOCKS, as bits. BAD");
        SquareLate x = told("p 1 0;p 1 1;p 1 2;p 1 3;p 1 4;p 1 24;");
        for (int walker = -1; walker <= 6; walker++) {
            for (int p = -1; p <= 6; p++) {
                boolean bad = walker < 0 || walker > 5 || p < 0 || p > 5 || walker == p;
                due("of " + walker + " and " + p, x.blocks(walker, p) == BAD ? 1 : 0, bad ? 1 : 0);
            }
        }
        for (int far : FAR) {
            due("walker " + far, x.blocks(far, 0), BAD);
            due("person " + far, x.blocks(0, far), BAD);
            due("both " + far, x.blocks(far, far), BAD);
        }
    }

    private static void oneAndTheSame() {
        says("BAD (one and the same");
        SquareLate x = told("p 1 0;p 9 24;");
        due("the first", x.blocks(0, 0), BAD);
        due("the last", x.blocks(1, 1), BAD);
    }

    private static void oneNotInTheSquare() {
        says("one who is not in THE SQUARE");
        for (int c = 0; c <= 25; c++) {
            SquareLate x = told("p 1 24;p 9 " + c + ";");
            due("one in " + c, x.blocks(0, 1), c == 25 ? BAD : 0);
        }
        SquareLate x = told("p 9 24;p 1 24;");
        due("in the square", x.blocks(0, 1), (1 << 4) + (1 << 9) + (1 << 14) + (1 << 19));
        x.walk(1, 25);
        due("away", x.blocks(0, 1), BAD);
        x.die(1);
        due("nowhere", x.blocks(0, 1), BAD);
    }

    private static void aWalkerWhoIsNowhere() {
        says("a walker who is nowhere, too");
        SquareLate x = told("p 9 0;p 1 6;");
        due("in the square", x.blocks(0, 1), 1 << 1);
        x.walk(0, 25);
        due("away, he may come", x.blocks(0, 1), 1 << 1);
        x.die(0);
        due("nowhere", x.blocks(0, 1), BAD);
        x.undo();
        due("away again", x.blocks(0, 1), 1 << 1);
    }

    private static void cellsThatBlock() {
        says("CELLS (bits 0 .. 24 ..) in which one person would have to be for another one .. to be hidden");
        for (int c = 0; c < 25; c++) {
            SquareLate x = told("p 5 25;p 5 " + c + ";p 6 " + c + ";");
            int ahead = 0;
            for (int row = 0; row < c / 5; row++) {
                ahead |= 1 << (5 * row + c % 5);
            }
            due("one as high in " + c, x.blocks(0, 1), ahead);
            due("one who is higher in " + c, x.blocks(0, 2), 0);
            due("by one who is higher", x.blocks(2, 1), ahead);
            due("nobody walked", x.person(0, 1), 25);
        }
    }

    private static void whereHeIsNowToo() {
        says("where he is now, too");
        for (int row = 0; row < 5; row++) {
            SquareLate x = told("p 5 " + (5 * row + 4) + ";p 5 24;");
            due("from row " + row, x.blocks(0, 1), (1 << 4) + (1 << 9) + (1 << 14) + (1 << 19));
        }
    }

    private static void seenNowOrNot() {
        says("SEEN now or not, to be hidden by people or SMOKE then");
        SquareLate x = told("p 1 25;p 5 24;p 9 4;");
        due("hidden by another one anyhow", x.blocks(0, 1), ALL_CELLS);
        due("by that one himself", x.blocks(2, 1), (1 << 4) + (1 << 9) + (1 << 14) + (1 << 19));
        x.walk(2, 25);
        due("by nobody", x.blocks(0, 1), 0);
        x.smoke(24, 1);
        due("by smoke in his cell", x.blocks(0, 1), ALL_CELLS);
        x.smoke(24, 0);
        x.smoke(4, 1);
        due("by smoke far ahead", x.blocks(0, 1), ALL_CELLS);
        x.smoke(4, 0);
        x.smoke(23, 1);
        due("not by smoke elsewhere", x.blocks(0, 1), 0);
    }

    private static void blocksAskNoCloud() {
        says("to be hidden by people or SMOKE then (CLOUD not asked)");
        SquareLate x = told("p 5 25;p 5 9;p 4 0;c 0;");
        due("under a cloud", x.blocks(0, 1), 1 << 4);
        due("by one too low", x.blocks(2, 1), 0);
    }

    private static void whoHides() {
        says("HIDES, as bits. BAD.");
        for (int n = 0; n <= 6; n++) {
            SquareLate x = told("p 1 0;".repeat(n));
            range("hides, of " + n, x::hides, 0, n - 1);
        }
        due("five behind one", told("p 9 0;p 1 5;p 2 10;p 3 15;p 4 20;p 5 20;").hides(0), 62);
        due("the last one's bit", told("p 1 20;p 1 1;p 1 2;p 1 3;p 1 4;p 1 0;").hides(5), 1);
        due("the first one hides the last", told("p 1 0;p 1 1;p 1 2;p 1 3;p 1 4;p 1 20;").hides(0), 32);
    }

    private static void hidesAlone() {
        says("whom (bits) one hides alone: who would be SEEN .., if he were away, and is not");
        SquareLate x = told("p 5 0;p 5 5;p 5 10;p 9 15;p 4 6;");
        due("the second alone", x.hides(0), 2);
        due("the third is behind two", x.hides(1), 0);
        due("nobody behind", x.hides(3), 0);
        due("nobody in his column", x.hides(4), 0);
        x.walk(1, 25);
        due("the third, then", x.hides(0), 4);
        x.smoke(5, 1);
        due("in smoke anyhow", x.hides(0), 0);
        due("nobody walked", x.person(0, 1), 0);
        due("in one cell", told("p 9 12;p 1 12;").hides(0), 0);
        due("not himself", told("p 9 12;").hides(0), 0);
    }

    private static void hidesFromAwayAndNowhere() {
        says("HIDES: whom (bits) one hides");
        SquareLate x = told("p 9 0;p 1 20;p 9 25;");
        due("in the square", x.hides(0), 2);
        due("away", x.hides(2), 0);
        x.walk(0, 25);
        due("gone away", x.hides(0), 0);
        x.undo();
        x.die(0);
        due("nowhere", x.hides(0), 0);
        x.undo();
        due("alive again", x.hides(0), 2);
    }

    private static void hidesAskNoCloud() {
        says("who would be SEEN (CLOUD not asked)");
        SquareLate x = told("p 9 0;p 1 5;p 1 6;c 0;");
        due("one behind him, under a cloud", x.hides(0), 2);
        due("nobody, under a cloud", x.hides(1), 0);
        x.day();
        due("the same without", x.hides(0), 2);
    }

    private static void oddsOfKDays() {
        says("ODDS: done on k (0 .. 9) days, each with CLOUD by x (0 .. 10) in 10 .. BAD");
        SquareLate x = new SquareLate();
        range("odds(x, 0, 0)", n -> x.odds(n, 0, 0), 0, 10);
        range("odds(x, 9, 1)", n -> x.odds(n, 9, 1), 0, 10);
        range("odds(0, k, 0)", k -> x.odds(0, k, 0), 0, 9);
        range("odds(10, k, 1)", k -> x.odds(10, k, 1), 0, 9);
        range("odds(5, 5, what)", what -> x.odds(5, 5, what), 0, 1);
    }

    private static void inLeastTerms() {
        says("a DEED is SEEN at least once: a fraction .. upper (what = 0), lower number (1), in least terms");
        SquareLate x = new SquareLate();
        for (int n = 0; n <= 10; n++) {
            for (int k = 0; k <= 9; k++) {
                BigInteger lower = BigInteger.TEN.pow(k);
                BigInteger upper = lower.subtract(BigInteger.valueOf(n).pow(k));
                BigInteger common = upper.gcd(lower);
                due("upper of " + n + ", " + k, x.odds(n, k, 0), upper.divide(common).longValue());
                due("lower of " + n + ", " + k, x.odds(n, k, 1), lower.divide(common).longValue());
            }
        }
        due("never, upper", x.odds(10, 9, 0), 0);
        due("never, lower", x.odds(10, 9, 1), 1);
        due("on no day, upper", x.odds(0, 0, 0), 0);
        due("on no day, lower", x.odds(0, 0, 1), 1);
        due("surely, upper", x.odds(0, 9, 0), 1);
        due("surely, lower", x.odds(0, 9, 1), 1);
        due("the largest, upper", x.odds(1, 9, 0), 999999999L);
        due("the largest, lower", x.odds(1, 9, 1), 1000000000L);
    }

    private static void oftenEnough() {
        says("for ODDS of y (0 .. 10) in 10 at least .. BAD");
        SquareLate x = new SquareLate();
        range("often(x, 0)", n -> x.often(n, 0), 0, 10);
        range("often(x, 10)", n -> x.often(n, 10), 0, 10);
        range("often(0, y)", y -> x.often(0, y), 0, 10);
        range("often(10, y)", y -> x.often(10, y), 0, 10);
        due("both", x.often(11, 11), BAD);
    }

    private static void theFewestDays() {
        says("OFTEN: on how many (0 .. 9) it must be done .., the fewest; NONE.");
        SquareLate x = new SquareLate();
        int[][] due = {
            {0, 1, 1, 1, 1, 1, 1, 1, 1, 1, 1},
            {0, 1, 1, 1, 1, 1, 1, 1, 1, 1, NONE},
            {0, 1, 1, 1, 1, 1, 1, 1, 1, 2, NONE},
            {0, 1, 1, 1, 1, 1, 1, 1, 2, 2, NONE},
            {0, 1, 1, 1, 1, 1, 1, 2, 2, 3, NONE},
            {0, 1, 1, 1, 1, 1, 2, 2, 3, 4, NONE},
            {0, 1, 1, 1, 1, 2, 2, 3, 4, 5, NONE},
            {0, 1, 1, 1, 2, 2, 3, 4, 5, 7, NONE},
            {0, 1, 1, 2, 3, 4, 5, 6, 8, NONE, NONE},
            {0, 1, 3, 4, 5, 7, 9, NONE, NONE, NONE, NONE},
            {0, NONE, NONE, NONE, NONE, NONE, NONE, NONE, NONE, NONE, NONE}
        };
        for (int n = 0; n <= 10; n++) {
            for (int y = 0; y <= 10; y++) {
                due("often(" + n + ", " + y + ")", x.often(n, y), due[n][y]);
            }
        }
    }

    private static void aDayThatWentBy() {
        says("STOOD, as bits. BAD (a DAY that did not go by");
        SquareLate x = told("p 1 0;");
        for (int day = 0; day <= 99; day++) {
            due("today, " + day, x.stood(day, 1), BAD);
            if (day > 0) {
                due("the day ahead of " + day, x.stood(day - 1, 1), 1);
            }
            x.day();
        }
        range("stood(day, 1) on day 99", day -> x.stood(day, 1), 0, 98);
        due("a day that can't be", x.stood(100, 1), BAD);
        undo(x, 1);
        due("undone", x.stood(98, 1), BAD);
        due("the one ahead", x.stood(97, 1), 1);
    }

    private static void ofAHeight() {
        says("who was KEPT as SEEN then and is of a HEIGHT .. HEIGHT 1 .. 9, too");
        SquareLate x = told("p 1 0;p 9 1;p 1 2;p 9 7;p 9 25;p 1 2;");
        due("no day went by, a height that is allowed", x.stood(0, 1), BAD);
        x.day();
        range("stood(0, height)", height -> x.stood(0, height), 1, 9);
        due("of 1", x.stood(0, 1), 1 + 4 + 32);
        due("of 9, not one away", x.stood(0, 9), 2 + 8);
        for (int height = 2; height <= 8; height++) {
            due("of " + height, x.stood(0, height), 0);
        }
        x.die(0);
        due("dead since", x.stood(0, 1), 1 + 4 + 32);
    }

    private static void daysOfOne() {
        says("DAYS of one: how many (what = 0), the first (1), the last (2) .. BAD.");
        SquareLate x = told("p 1 0;p 1 1;p 1 2;p 1 3;p 1 4;p 1 25;");
        range("days(p, 0)", p -> x.days(p, 0), 0, 5);
        range("days(0, what)", what -> x.days(0, what), 0, 2);
        range("days(5, what)", what -> x.days(5, what), 0, 2);
        pass(x, 99);
        due("how many", x.days(0, 0), 99);
        due("the first", x.days(0, 1), 0);
        due("the last", x.days(0, 2), 98);
        undo(x, 1);
        due("how many, one undone", x.days(0, 0), 98);
        due("the last, one undone", x.days(0, 2), 97);
    }

    private static void theFirstAndTheLast() {
        says("the first, the last");
        SquareLate x = told("p 1 0;p 1 6;c 0;c 2;");
        pass(x, 1);
        due("under a cloud", x.days(0, 1), NONE);
        pass(x, 1);
        due("the first is the last", x.days(0, 1), 1);
        due("the last is the first", x.days(0, 2), 1);
        pass(x, 2);
        x.die(1);
        pass(x, 1);
        int[] first = {3, 1, 4};
        int[] second = {2, 1, 3};
        for (int what = 0; what < 3; what++) {
            due("of the first one, " + what, x.days(0, what), first[what]);
            due("of the second one, dead since, " + what, x.days(1, what), second[what]);
        }
    }

    private static void onDayZeroAlone() {
        says("on how many DAYS that went by he was KEPT; the first, the last");
        SquareLate x = told("p 1 0;");
        x.day();
        x.die(0);
        pass(x, 98);
        int[] due = {1, 0, 0};
        for (int what = 0; what < 3; what++) {
            due("days(0, " + what + ")", x.days(0, what), due[what]);
        }
    }

    private static void neverKept() {
        says("he was KEPT; the first, the last; NONE");
        SquareLate x = told("p 1 0;p 1 5;p 1 25;");
        due("no day yet, how many", x.days(0, 0), 0);
        due("no day yet, the first", x.days(0, 1), NONE);
        due("no day yet, the last", x.days(0, 2), NONE);
        pass(x, 3);
        for (int p = 1; p <= 2; p++) {
            due("hidden or away, how many", x.days(p, 0), 0);
            due("hidden or away, the first", x.days(p, 1), NONE);
            due("hidden or away, the last", x.days(p, 2), NONE);
        }
        undo(x, 3);
        int[] undone = {0, NONE, NONE};
        for (int what = 0; what < 3; what++) {
            due("all days undone, " + what, x.days(0, what), undone[what]);
        }
        pass(x, 99);
        for (int what = 0; what < 3; what++) {
            due("never in 99 days, " + what, x.days(2, what), undone[what]);
        }
    }

    private static void bitsTogether() {
        says("TOGETHER. BAD (bits of none).");
        for (int n = 0; n <= 6; n++) {
            SquareLate x = told("p 1 0;".repeat(n));
            range("together, of " + n, x::together, 0, (1 << n) - 1);
        }
        due("one bit of none among others", told("p 1 0;p 1 1;").together(5), BAD);
    }

    private static void onHowManyDays() {
        says("on how many DAYS that went by all of some (bits) were KEPT");
        SquareLate x = told("p 1 0;p 1 1;p 1 2;c 1;");
        due("no day yet, nobody", x.together(0), 0);
        due("no day yet, all", x.together(7), 0);
        pass(x, 2);
        due("nobody, under a cloud too", x.together(0), 2);
        due("all", x.together(7), 1);
        x.smoke(0, 1);
        x.day();
        x.walk(2, 25);
        x.day();
        int[] due = {4, 2, 3, 2, 2, 1, 2, 1};
        for (int some = 0; some < 8; some++) {
            due("all of " + some, x.together(some), due[some]);
        }
        pass(x, 95);
        due("99 days", x.together(0), 99);
        due("of two", x.together(3), 97);
    }
}
