/** The bounds of what counts: promises 15 to 19. Each test is of one sentence of the document. */
public final class CountsBoundsTest extends Checks {
    public static void main(String[] args) {
        ofTheIthDeed();
        lateDaysBehind();
        neverCounts();
        holderOnADay();
        fromThatDayOn();
        theOneDoneLast();
        countsByThen();
        itsOwnAheadOfRules();
        theFewestRules();
        theFewestRulesByThen();
        theLeastAct();
        oneActGivesTheNext();
        roundWithoutEnd();
        noHolder();
        round();
        noRound();
        votesOnADay();
        lateDaysAhead();
        didNotGoByYet();
        nearerByADay();
        anotherOneOrNone();
        end();
    }

    private static void ofTheIthDeed() {
        says("The DAY from which on the i-th DEED COUNTS; NONE. BAD.");
        SquareLate x = told("p 1 0;");
        for (int n = 0; n <= 12; n++) {
            range("counts of " + n, x::counts, 0, n - 1);
            x.deed(0, 0);
        }
    }

    private static void lateDaysBehind() {
        says("A DEED COUNTS from DAY d on, LATE days behind the DAY on which it was done, if it was SEEN");
        for (int late : new int[] {1, 2, 29, 30}) {
            SquareLate x = told("p 1 0;l " + late + ";");
            x.deed(0, 0);
            x.day();
            x.deed(0, 0);
            pass(x, 98);
            x.deed(0, 0);
            due("of day 0", x.counts(0), late);
            due("of day 1", x.counts(1), 1 + late);
            due("of day 99", x.counts(2), 99 + late);
        }
        SquareLate x = told("p 1 0;");
        x.deed(0, 0);
        due("12 at first", x.counts(0), 12);
    }

    private static void neverCounts() {
        says("else never");
        SquareLate x = told("p 1 0;l 1;c 0;");
        x.deed(0, 5);
        pass(x, 99);
        due("under a cloud", x.counts(0), NONE);
        due("no holder by it", x.holder(5, 200), NONE);
        due("nor nearer", x.nearer(30, 200), 0);
        SquareLate y = told("p 1 0;l 1;");
        y.smoke(0, 1);
        y.deed(0, 5);
        due("in smoke", y.counts(0), NONE);
        due("no holder by that", y.holder(5, 200), NONE);
    }

    private static void holderOnADay() {
        says("HOLDER of an ACT on a DAY (0 .. 200) .. BAD");
        SquareLate x = told("p 1 0;");
        range("holder(0, day)", day -> x.holder(0, day), 0, 200);
        range("holder(act, 0)", act -> x.holder(act, 0), 0, 7);
        range("holder(act, 200)", act -> x.holder(act, 200), 0, 7);
        due("both", x.holder(8, 201), BAD);
        SquareLate y = told("p 1 0;l 30;");
        pass(y, 99);
        y.deed(0, 7);
        due("on day 128", y.holder(7, 128), NONE);
        due("on day 129", y.holder(7, 129), 0);
        due("on day 200", y.holder(7, 200), 0);
    }

    private static void fromThatDayOn() {
        says("that COUNT by then");
        for (int late : new int[] {1, 12, 30}) {
            SquareLate x = told("p 1 0;l " + late + ";");
            x.deed(0, 0);
            for (int day = 0; day <= 200; day++) {
                due("LATE " + late + ", on " + day, x.holder(0, day), day < late ? NONE : 0);
            }
        }
    }

    private static void theOneDoneLast() {
        says("the one done last, of one DAY the latest done: who did it");
        SquareLate x = told("p 1 0;p 1 1;p 1 2;p 1 3;p 1 4;p 1 0;l 1;");
        for (int i = 0; i < 12; i++) {
            x.deed(i % 6, 0);
            due("the latest of day 0", x.holder(0, 1), i % 6);
        }
        SquareLate y = told("p 1 0;p 1 1;p 1 2;l 1;");
        y.deed(2, 0);
        y.day();
        y.deed(1, 0);
        y.deed(0, 0);
        y.day();
        y.deed(1, 0);
        int[] who = {NONE, 2, 0, 1, 1};
        for (int day = 0; day < 5; day++) {
            due("on " + day, y.holder(0, day), who[day]);
        }
        y.die(1);
        due("dead since", y.holder(0, 200), 1);
    }

    private static void countsByThen() {
        says("of DEEDS of that ACT that COUNT by then");
        SquareLate x = told("p 1 0;p 1 1;p 1 2;l 5;");
        x.deed(0, 3);
        x.smoke(1, 1);
        x.deed(1, 3);
        x.deed(2, 4);
        x.day();
        x.deed(2, 3);
        due("the hidden one does not", x.holder(3, 5), 0);
        due("the later one does then", x.holder(3, 6), 2);
        due("of another act", x.holder(4, 5), 2);
        due("of none", x.holder(2, 200), NONE);
    }

    private static void itsOwnAheadOfRules() {
        says("if there is none: of all ACTS .. from which it comes by RULES");
        SquareLate x = told("p 1 0;p 1 1;l 1;r 0 1;");
        x.deed(1, 1);
        x.day();
        x.deed(0, 0);
        due("its own, though older", x.holder(1, 2), 1);
        due("of day 1", x.holder(1, 1), 1);
        SquareLate y = told("p 1 0;p 1 1;l 1;r 0 1;");
        y.deed(0, 0);
        y.day();
        y.deed(1, 1);
        due("by the rule, until its own counts", y.holder(1, 1), 0);
        due("its own then", y.holder(1, 2), 1);
        due("a rule does not go back", y.holder(0, 2), 0);
    }

    private static void theFewestRules() {
        says("that of the fewest RULES on the way");
        SquareLate x = told("p 1 0;p 1 1;l 1;r 0 1;r 1 2;r 7 2;");
        x.deed(0, 0);
        due("two rules, if alone", x.holder(2, 1), 0);
        x.deed(1, 7);
        due("one rule ahead of two, though of a greater act", x.holder(2, 1), 1);
        SquareLate y = told("p 1 0;p 1 1;l 1;r 0 1;r 1 2;r 2 3;r 6 5;r 5 3;r 0 3;");
        y.deed(1, 6);
        due("two rules", y.holder(3, 1), 1);
        y.deed(0, 0);
        due("one rule by a shorter way of the same act", y.holder(3, 1), 0);
    }

    private static void theFewestRulesByThen() {
        says("of all ACTS that have one so");
        SquareLate x = told("p 1 0;p 1 1;l 3;r 0 1;r 1 2;");
        x.deed(0, 0);
        x.day();
        x.deed(1, 1);
        int[] who = {NONE, NONE, NONE, 0, 1};
        for (int day = 0; day < 5; day++) {
            due("on " + day, x.holder(2, day), who[day]);
        }
    }

    private static void theLeastAct() {
        says("of several the least ACT: its HOLDER");
        SquareLate x = told("p 1 0;p 1 1;p 1 2;l 1;r 7 3;r 6 3;r 0 3;");
        x.deed(0, 7);
        due("7", x.holder(3, 1), 0);
        x.deed(1, 6);
        due("6 ahead of 7", x.holder(3, 1), 1);
        x.deed(2, 0);
        due("0 ahead of all", x.holder(3, 1), 2);
        x.deed(0, 7);
        due("though 7 was done last", x.holder(3, 1), 2);
        x.deed(1, 0);
        due("the holder of 0", x.holder(3, 1), 1);
    }

    private static void oneActGivesTheNext() {
        says("by RULES (one ACT gives the next one)");
        SquareLate x = told("p 1 0;l 1;r 6 7;r 5 6;r 4 5;r 3 4;r 2 3;r 1 2;");
        x.deed(0, 1);
        for (int act = 0; act < 8; act++) {
            due("by " + (act - 1) + " rules", x.holder(act, 1), act == 0 ? NONE : 0);
            due("not yet", x.holder(act, 0), NONE);
        }
        SquareLate y = told("p 1 0;l 1;r 6 7;r 5 6;r 3 4;r 2 3;r 1 2;");
        y.deed(0, 1);
        due("up to the gap", y.holder(4, 1), 0);
        due("not beyond it", y.holder(5, 1), NONE);
        due("nor at the end", y.holder(7, 1), NONE);
    }

    private static void roundWithoutEnd() {
        says("claims that follow from others, round without end");
        SquareLate x = told("p 1 0;p 1 1;l 1;r 0 1;r 1 2;r 2 3;r 3 4;r 4 5;r 5 0;");
        due("nobody all round", x.holder(0, 200), NONE);
        x.deed(0, 3);
        for (int act = 0; act < 6; act++) {
            due("all round, " + act, x.holder(act, 1), 0);
        }
        x.deed(1, 2);
        int[] who = {0, 0, 1, 0, 0, 0};
        for (int act = 0; act < 6; act++) {
            due("the nearest one back, " + act, x.holder(act, 1), who[act]);
        }
    }

    private static void noHolder() {
        says("its HOLDER; NONE");
        SquareLate x = told("p 1 0;l 1;r 0 1;");
        for (int act = 0; act < 8; act++) {
            due("nothing was done, " + act, x.holder(act, 200), NONE);
        }
        x.deed(0, 1);
        due("not backwards", x.holder(0, 200), NONE);
        x.undo();
        due("undone", x.holder(1, 200), NONE);
    }

    private static void round() {
        says("ROUND: the least ACT that comes back to itself by RULES");
        due("0", told("r 7 0;r 0 7;").round(), 0);
        due("6", told("r 7 6;r 6 7;").round(), 6);
        due("by six rules", told("r 2 3;r 3 4;r 4 5;r 5 6;r 6 7;r 7 2;").round(), 2);
        due("the least of two", told("r 7 6;r 6 7;r 5 4;r 4 5;").round(), 4);
        due("not one that leads there", told("r 0 5;r 5 6;r 6 5;").round(), 5);
        due("not one that it leads to", told("r 5 6;r 6 5;r 5 0;r 6 1;").round(), 5);
        due("two that meet", told("r 3 4;r 4 5;r 5 4;r 4 3;").round(), 3);
    }

    private static void noRound() {
        says("comes back to itself by RULES; NONE");
        due("no rule", told("").round(), NONE);
        due("one rule", told("r 0 1;").round(), NONE);
        due("six in a row", told("r 0 1;r 1 2;r 2 3;r 3 4;r 4 5;r 5 6;").round(), NONE);
        due("two ways", told("r 0 1;r 0 2;r 1 3;r 2 3;r 0 3;").round(), NONE);
        due("told again", told("r 0 1;".repeat(6)).round(), NONE);
        SquareLate x = told("r 0 1;r 1 0;");
        x.square();
        due("read anew", x.round(), NONE);
    }

    private static void votesOnADay() {
        says("VOTES of a DAY (0 .. 200) .. BAD");
        SquareLate first = told("p 1 0;");
        range("votes on day 0", first::votes, 0, 200);
        SquareLate last = told("p 1 0;");
        pass(last, 99);
        range("votes on day 99", last::votes, 0, 200);
    }

    private static void lateDaysAhead() {
        says("who (bits) was KEPT as SEEN LATE days ahead of it");
        for (int late : new int[] {1, 12, 30}) {
            SquareLate x = told("p 1 0;p 1 1;l " + late + ";");
            x.day();
            x.walk(0, 25);
            x.day();
            x.die(1);
            x.day();
            due("ahead of day 0, LATE " + late, x.votes(late - 1), 0);
            due("day 0, dead since", x.votes(late), 3);
            due("day 1", x.votes(late + 1), 2);
            due("day 2", x.votes(late + 2), 0);
        }
        SquareLate last = told("p 1 0;l 30;");
        pass(last, 99);
        due("day 98", last.votes(128), 1);
        due("day 99", last.votes(129), 0);
        due("day 170", last.votes(200), 0);
        due("30 days ahead of day 0", last.votes(0), 0);
        due("one day ahead of day 0", last.votes(29), 0);
        due("day 0", last.votes(30), 1);
    }

    private static void didNotGoByYet() {
        says("(0, if that DAY did not go by yet)");
        SquareLate x = told("p 1 0;l 1;");
        due("day 0 goes on", x.votes(1), 0);
        x.day();
        due("day 0 went by", x.votes(1), 1);
        due("day 1 goes on", x.votes(2), 0);
        x.day();
        due("day 1 went by", x.votes(2), 1);
        x.undo();
        due("day 1 is undone", x.votes(2), 0);
        x.undo();
        due("day 0 is undone", x.votes(1), 0);
    }

    private static void nearerByADay() {
        says("NEARER: if LATE were n (1 .. 30) .. BAD");
        SquareLate x = told("p 1 0;");
        range("nearer(n, 0)", n -> x.nearer(n, 0), 1, 30);
        range("nearer(n, 200)", n -> x.nearer(n, 200), 1, 30);
        range("nearer(1, day)", day -> x.nearer(1, day), 0, 200);
        due("both", x.nearer(0, 201), BAD);
        due("LATE stays", x.now(4), 12);
    }

    private static void anotherOneOrNone() {
        says("ACTS (bits) of which another one (or none) is the HOLDER on a DAY than is");
        SquareLate x = told("p 1 0;p 1 1;l 12;r 0 5;");
        x.deed(0, 0);
        x.deed(1, 7);
        for (int n = 1; n <= 30; n++) {
            int changed = 1 + (1 << 5) + (1 << 7);
            due("LATE " + n + ", on 11", x.nearer(n, 11), n <= 11 ? changed : 0);
            due("LATE " + n + ", on 12", x.nearer(n, 12), n <= 12 ? 0 : changed);
            due("LATE " + n + ", on 0", x.nearer(n, 0), 0);
            due("LATE " + n + ", on 200", x.nearer(n, 200), 0);
        }
        x.day();
        x.deed(1, 0);
        x.deed(1, 7);
        due("another one", x.nearer(11, 12), 1 + (1 << 5));
        due("as it is", x.nearer(12, 12), 0);
        due("the older one instead", x.nearer(13, 13), 1 + (1 << 5));
    }
}
