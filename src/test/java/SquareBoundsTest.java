/** The bounds of THE SQUARE and of its DAYS: promises 5 to 14. Each test is of one sentence of the document. */
public final class SquareBoundsTest extends Checks {
    private static final String SIX = "p 1 0;p 2 1;p 3 2;p 4 3;p 5 4;p 6 25;";

    public static void main(String[] args) {
        ofAPerson();
        awayAndNowhere();
        ofACell();
        ofNow();
        rowsAndColumns();
        asHighOrHigher();
        peopleOfOneCell();
        smokeAhead();
        noCloud();
        theDay();
        walks();
        walksToWhereHeIs();
        theDeadDoNotWalk();
        dies();
        smokePut();
        smokeEverywhere();
        anAct();
        inTheSquare();
        twelveDeeds();
        badThenStateThenFull();
        settledThen();
        theEvening();
        allSmokeIsGone();
        theLastDay();
        undone();
        undoneOfEachKind();
        tenAreKnown();
        refusedIsNone();
        undoneAtTheEdges();
        keptAnew();
        ofADeed();
        end();
    }

    private static void ofAPerson() {
        says("Of a person: 0 HEIGHT, 1 CELL (25 away, 26 nowhere), 2 whether SEEN. BAD.");
        SquareLate x = told(SIX);
        range("person(p, 0)", p -> x.person(p, 0), 0, 5);
        range("person(0, what)", what -> x.person(0, what), 0, 2);
        range("person(5, what)", what -> x.person(5, what), 0, 2);
        due("height of the first", x.person(0, 0), 1);
        due("height of the last", x.person(5, 0), 6);
        due("cell of the first", x.person(0, 1), 0);
        due("the first is seen", x.person(0, 2), 1);
        due("the last is not", x.person(5, 2), 0);
        SquareLate one = told("p 9 24;");
        range("person of one", p -> one.person(p, 1), 0, 0);
    }

    private static void awayAndNowhere() {
        says("25 away, 26 nowhere");
        SquareLate x = told("p 1 24;p 1 25;");
        due("in the last cell", x.person(0, 1), 24);
        due("told as away", x.person(1, 1), 25);
        x.walk(0, 25);
        due("away", x.person(0, 1), 25);
        due("away, not seen", x.person(0, 2), 0);
        x.die(0);
        due("nowhere", x.person(0, 1), 26);
        due("nowhere, not seen", x.person(0, 2), 0);
        due("nowhere, as high as ever", x.person(0, 0), 1);
    }

    private static void ofACell() {
        says("Of a CELL: 0 PEOPLE there (bits), 1 whether SMOKE is there. BAD.");
        SquareLate x = told("p 1 0;p 1 24;p 1 24;p 1 25;p 1 24;p 1 24;");
        range("cell(c, 0)", c -> x.cell(c, 0), 0, 24);
        range("cell(c, 1)", c -> x.cell(c, 1), 0, 24);
        range("cell(0, what)", what -> x.cell(0, what), 0, 1);
        range("cell(24, what)", what -> x.cell(24, what), 0, 1);
        due("the first", x.cell(0, 0), 1);
        due("the last", x.cell(24, 0), 2 + 4 + 16 + 32);
        due("an empty one", x.cell(23, 0), 0);
        due("away is no cell", x.cell(25, 0), BAD);
        x.die(0);
        due("nowhere is no cell", x.cell(26, 0), BAD);
        due("the dead are in none", x.cell(0, 0), 0);
        x.smoke(24, 1);
        due("smoke in the last", x.cell(24, 1), 1);
        due("none in the one ahead", x.cell(23, 1), 0);
    }

    private static void ofNow() {
        says("0 THE DAY, 1 who is SEEN (bits), 2 whether THE DAY has a CLOUD, 3 CELLS with SMOKE (bits), 4 LATE. BAD.");
        SquareLate x = told("l 7;p 1 24;p 1 20;p 1 25;p 1 21;p 1 22;p 1 23;");
        range("now", x::now, 0, 4);
        due("DAY", x.now(0), 0);
        due("seen", x.now(1), 63 - 4);
        due("cloud", x.now(2), 0);
        due("LATE", x.now(4), 7);
        x.smoke(0, 1);
        x.smoke(24, 1);
        due("smoke in the first and the last", x.now(3), 1 + (1 << 24));
        due("hid the one in each column", x.now(1), 63 - 4 - 1 - 2);
    }

    /** One high person in each CELL and a low one in each: hidden just behind, in the same COLUMN. */
    private static void rowsAndColumns() {
        says("ROWS 0 .. 4, COLUMNS 0 .. 4: CELL 5 ROW and COLUMN; ROW 0 is nearest to the mirror");
        for (int high = 0; high < 25; high++) {
            SquareLate x = told("p 9 " + high + ";p 1 25;");
            for (int low = 0; low < 25; low++) {
                x.walk(1, low);
                boolean hidden = high % 5 == low % 5 && high / 5 < low / 5;
                due("one in " + low + " behind one in " + high, x.person(1, 2), hidden ? 0 : 1);
                due("the high one in " + high, x.person(0, 2), 1);
            }
        }
    }

    private static void asHighOrHigher() {
        says("no other one, in a lesser ROW, is as high or higher");
        for (int ahead = 1; ahead <= 9; ahead++) {
            for (int behind = 1; behind <= 9; behind++) {
                SquareLate x = told("p " + ahead + " 4;p " + behind + " 9;");
                due(behind + " behind " + ahead, x.now(1), ahead >= behind ? 1 : 3);
            }
        }
        due("one who is hidden hides, too", told("p 3 0;p 2 5;p 3 10;p 4 15;p 4 20;").now(1), 1 + 8);
        due("one in the farthest row ahead", told("p 5 0;p 5 20;").now(1), 1);
    }

    private static void peopleOfOneCell() {
        says("(People of one CELL do not hide one another.)");
        for (int c : new int[] {0, 4, 12, 20, 24}) {
            String where = " " + c + ";";
            SquareLate x = told("p 9" + where + "p 1" + where + "p 5" + where + "p 9" + where + "p 5" + where + "p 1" + where);
            due("six in " + c, x.now(1), 63);
        }
    }

    private static void smokeAhead() {
        says("no SMOKE is in his CELL or in a lesser ROW of his COLUMN");
        for (int c = 0; c < 25; c++) {
            SquareLate x = told("p 5 " + c + ";");
            for (int s = 0; s < 25; s++) {
                x.smoke(s, 1);
                boolean hidden = s % 5 == c % 5 && s / 5 <= c / 5;
                due("one in " + c + ", smoke in " + s, x.now(1), hidden ? 0 : 1);
                x.smoke(s, 0);
                due("smoke taken from " + s, x.now(1), 1);
            }
        }
    }

    private static void noCloud() {
        says("and if THE DAY .. has no CLOUD");
        SquareLate x = told("p 1 0;p 1 24;c 1;c 3;");
        int[] seen = {3, 0, 3, 0, 3};
        for (int day = 0; day < 5; day++) {
            due("seen on " + day, x.now(1), seen[day]);
            due("cloud on " + day, x.now(2), seen[day] == 0 ? 1 : 0);
            due("deed on " + day, x.deed(1, 0), seen[day] == 0 ? 0 : 1);
            x.day();
        }
        for (int day = 0; day < 5; day++) {
            due("KEPT on " + day, x.stood(day, 1), seen[day]);
        }
    }

    private static void theDay() {
        says("THE DAY (0 at first, 99 at most)");
        SquareLate x = told("p 1 0;");
        due("at first", x.now(0), 0);
        for (int day = 1; day <= 99; day++) {
            due("day " + day, x.day(), day);
            due("now " + day, x.now(0), day);
        }
        due("day 100", x.day(), STATE);
        due("again", x.day(), STATE);
        due("99 at most", x.now(0), 99);
    }

    private static void walks() {
        says("WALKS: the CELL where he was. BAD; a person goes to a CELL (25: away)");
        range("walk(0, c)", c -> told("p 1 12;").walk(0, c), 0, 25);
        range("walk(p, 12)", p -> told(SIX).walk(p, 12), 0, 5);
        SquareLate x = told("p 1 24;");
        due("from 24 to 0", x.walk(0, 0), 24);
        due("from 0 to 25", x.walk(0, 25), 0);
        due("from 25 to 24", x.walk(0, 24), 25);
        due("to 26", x.walk(0, 26), BAD);
        due("to -1", x.walk(0, -1), BAD);
        due("is where he was", x.person(0, 1), 24);
        due("three are known", x.count(4), 3);
        SquareLate six = told("p 1 0;p 1 0;p 1 0;p 1 0;p 1 0;p 1 1;");
        due("the last comes to the others", six.walk(5, 0), 1);
        due("all six in one", six.cell(0, 0), 63);
    }

    private static void walksToWhereHeIs() {
        says("STATE: he is there");
        for (int c = 0; c <= 25; c++) {
            SquareLate x = told("p 1 " + c + ";");
            due("from " + c + " to " + c, x.walk(0, c), STATE);
            due("nothing to be undone", x.count(4), 0);
            due("to another", x.walk(0, (c + 1) % 26), c);
        }
    }

    private static void theDeadDoNotWalk() {
        says("STATE: he is .. nowhere");
        SquareLate x = told("p 1 12;");
        x.die(0);
        for (int c = 0; c <= 25; c++) {
            due("to " + c, x.walk(0, c), STATE);
        }
        due("to 26, BAD ahead of STATE", x.walk(0, 26), BAD);
        due("to -1, BAD ahead of STATE", x.walk(0, -1), BAD);
        due("still nowhere", x.person(0, 1), 26);
        due("one is known", x.count(4), 1);
    }

    private static void dies() {
        says("DIES: the CELL where he was. BAD; STATE: he is nowhere.");
        for (int c = 0; c <= 25; c++) {
            SquareLate x = told("p 1 " + c + ";");
            due("in " + c, x.die(0), c);
            due("again", x.die(0), STATE);
            due("nowhere", x.person(0, 1), 26);
            due("one is known", x.count(4), 1);
        }
        range("die", p -> told(SIX).die(p), 0, 5);
        SquareLate x = told(SIX);
        for (int p = 0; p < 6; p++) {
            x.die(p);
        }
        due("all are dead, and told as before", x.count(0), 6);
        due("nobody is seen", x.now(1), 0);
        due("the sixth again", x.die(5), STATE);
        due("a seventh", x.die(6), BAD);
    }

    private static void smokePut() {
        says("SMOKE is put (is = 1) or taken (0): on how many CELLS it is. BAD; STATE: it is so.");
        range("smoke(c, 1)", c -> new SquareLate().smoke(c, 1), 0, 24);
        range("smoke(12, is)", is -> new SquareLate().smoke(12, is), 0, 1);
        range("smoke(c, 0)", c -> new SquareLate().smoke(c, 0), 0, 24);
        SquareLate x = new SquareLate();
        due("none to take from 0", x.smoke(0, 0), STATE);
        due("none to take from 24", x.smoke(24, 0), STATE);
        due("put on 24", x.smoke(24, 1), 1);
        due("put on 24 again", x.smoke(24, 1), STATE);
        due("put on 0", x.smoke(0, 1), 2);
        due("put on 0 again", x.smoke(0, 1), STATE);
        due("put on 24 as 2", x.smoke(24, 2), BAD);
        due("put on 25", x.smoke(25, 1), BAD);
        due("taken from 24", x.smoke(24, 0), 1);
        due("taken from 24 again", x.smoke(24, 0), STATE);
        due("taken from 0", x.smoke(0, 0), 0);
        due("four are known", x.count(4), 4);
    }

    private static void smokeEverywhere() {
        says("on how many CELLS it is");
        SquareLate x = told("p 9 24;");
        for (int c = 0; c < 25; c++) {
            due("put on " + c, x.smoke(c, 1), c + 1);
        }
        due("everywhere", x.now(3), ALL_CELLS);
        for (int c = 0; c < 25; c++) {
            due("put on " + c + " again", x.smoke(c, 1), STATE);
        }
        for (int c = 0; c < 25; c++) {
            due("taken from " + c, x.smoke(c, 0), 24 - c);
        }
        due("nowhere", x.now(3), 0);
    }

    private static void anAct() {
        says("ACTS 0 .. 7 .. A DEED: whether it is SEEN. BAD");
        range("deed(0, act)", act -> told(SIX).deed(0, act), 0, 7);
        range("deed(p, 0)", p -> told(SIX).deed(p, 0), 0, 5);
        SquareLate x = told("p 1 0;");
        x.deed(0, 0);
        x.deed(0, 7);
        due("the first act", x.done(0, 1), 0);
        due("the last act", x.done(1, 1), 7);
    }

    private static void inTheSquare() {
        says("STATE: he is not in THE SQUARE");
        for (int c = 0; c <= 25; c++) {
            due("in " + c, told("p 1 " + c + ";").deed(0, 0), c == 25 ? STATE : 1);
        }
        SquareLate x = told("p 1 24;");
        x.walk(0, 25);
        due("away", x.deed(0, 0), STATE);
        x.walk(0, 24);
        due("back again", x.deed(0, 0), 1);
        x.die(0);
        due("nowhere", x.deed(0, 0), STATE);
        due("one was done", x.count(3), 1);
        due("four are known", x.count(4), 4);
    }

    private static void twelveDeeds() {
        says("A DEED (12 at most) .. FULL");
        SquareLate x = told("p 1 0;");
        for (int i = 0; i < 12; i++) {
            due("how many", x.count(3), i);
            due("deed " + i, x.deed(0, i % 8), 1);
        }
        due("a thirteenth", x.deed(0, 0), FULL);
        due("again", x.deed(0, 7), FULL);
        due("twelve", x.count(3), 12);
        due("the last one's act", x.done(11, 1), 3);
        x.day();
        due("on another day", x.deed(0, 0), FULL);
        undo(x, 2);
        due("eleven", x.count(3), 11);
        due("room for one", x.deed(0, 6), 1);
        due("its act", x.done(11, 1), 6);
        due("and for no other", x.deed(0, 6), FULL);
    }

    private static void badThenStateThenFull() {
        says("Refused, and nothing changes, the first of these: BAD .., STATE .., FULL");
        SquareLate x = told("p 1 0;p 1 25;p 1 1;");
        x.die(2);
        due("away, an act that is none", x.deed(1, 8), BAD);
        due("nowhere, an act that is none", x.deed(2, -1), BAD);
        for (int i = 0; i < 12; i++) {
            x.deed(0, 0);
        }
        due("full, an act that is none", x.deed(0, 8), BAD);
        due("full, a person who is none", x.deed(3, 0), BAD);
        due("full, away, an act that is none", x.deed(1, -1), BAD);
        due("full, away", x.deed(1, 0), STATE);
        due("full, nowhere", x.deed(2, 0), STATE);
        due("full", x.deed(0, 0), FULL);
    }

    private static void settledThen() {
        says("whether it is SEEN is settled then");
        SquareLate x = told("p 1 5;p 1 25;c 1;l 1;");
        due("seen", x.deed(0, 0), 1);
        x.smoke(0, 1);
        due("in smoke", x.deed(0, 1), 0);
        x.smoke(0, 0);
        x.walk(1, 0);
        due("behind one", x.deed(0, 2), 0);
        x.walk(1, 25);
        x.day();
        due("under a cloud", x.deed(0, 3), 0);
        x.day();
        x.die(0);
        int[] seen = {1, 0, 0, 0};
        for (int i = 0; i < 4; i++) {
            due("deed " + i, x.done(i, 4), seen[i]);
            due("counts " + i, x.counts(i), seen[i] == 1 ? 1 : NONE);
        }
    }

    private static void theEvening() {
        says("who is SEEN in the evening is KEPT (for all DAYS)");
        SquareLate x = told("p 1 0;p 2 25;l 1;");
        x.walk(0, 25);
        x.walk(1, 24);
        x.day();
        due("who left ahead of the evening", x.votes(1), 2);
        x.smoke(24, 1);
        x.smoke(24, 0);
        x.day();
        due("smoke was gone by the evening", x.votes(2), 2);
        x.die(1);
        x.day();
        due("dead by the evening", x.votes(3), 0);
        pass(x, 96);
        due("for all days", x.stood(0, 2), 2);
        due("of one of them", x.days(1, 2), 1);
    }

    private static void allSmokeIsGone() {
        says("all SMOKE is gone");
        SquareLate x = told("p 1 0;");
        for (int c = 0; c < 25; c++) {
            x.smoke(c, 1);
        }
        due("in smoke", x.now(1), 0);
        x.day();
        due("none", x.now(3), 0);
        due("seen", x.now(1), 1);
        due("it hid one in the evening", x.stood(0, 1), 0);
        due("put again", x.smoke(0, 1), 1);
    }

    private static void theLastDay() {
        says("STATE: it is DAY 99.");
        SquareLate x = told("p 1 0;l 1;");
        pass(x, 98);
        due("day 98 goes by", x.day(), 99);
        x.smoke(24, 1);
        due("day 99 does not", x.day(), STATE);
        due("smoke stays", x.now(3), 1 << 24);
        due("nobody is KEPT", x.votes(100), 0);
        due("day 98 went by", x.votes(99), 1);
        due("day 99 did not", x.stood(99, 1), BAD);
        due("days", x.days(0, 0), 99);
        due("a deed on it", x.deed(0, 0), 1);
        due("its day", x.done(0, 2), 99);
    }

    private static void undone() {
        says("UNDONE: how many more may be. STATE: none.");
        SquareLate x = told("p 1 0;");
        due("nothing yet", x.undo(), STATE);
        x.walk(0, 1);
        due("one", x.undo(), 0);
        due("none more", x.undo(), STATE);
        for (int n = 1; n <= 10; n++) {
            for (int i = 1; i <= n; i++) {
                x.walk(0, i);
            }
            due("of " + n, x.undo(), n - 1);
            undo(x, n - 1);
            due("as ahead of all", x.person(0, 1), 0);
            due("none", x.undo(), STATE);
        }
    }

    private static void undoneOfEachKind() {
        says("all is as ahead of it");
        SquareLate x = told("p 1 24;p 1 0;");
        x.walk(0, 25);
        x.undo();
        due("a walk away", x.person(0, 1), 24);
        x.walk(1, 25);
        x.walk(1, 24);
        x.undo();
        due("a walk from away", x.person(1, 1), 25);
        x.undo();
        due("a walk from 0", x.person(1, 1), 0);
        x.die(0);
        x.undo();
        due("alive in 24", x.person(0, 1), 24);
        x.smoke(24, 1);
        x.undo();
        due("smoke put on 24", x.now(3), 0);
        x.smoke(24, 1);
        x.smoke(0, 1);
        x.smoke(24, 0);
        x.undo();
        due("smoke taken from 24", x.now(3), 1 + (1 << 24));
        x.day();
        x.undo();
        due("the day", x.now(0), 0);
        due("its smoke", x.now(3), 1 + (1 << 24));
        due("nobody was KEPT", x.days(0, 0), 0);
        due("it did not go by", x.together(0), 0);
        x.deed(0, 7);
        x.undo();
        due("a deed", x.count(3), 0);
        due("of none", x.done(0, 0), BAD);
        due("steps", x.count(4), 2);
    }

    private static void tenAreKnown() {
        says("10 are known, older ones are lost");
        for (int made = 9; made <= 12; made++) {
            SquareLate x = told("p 1 0;");
            for (int c = 1; c <= made; c++) {
                x.walk(0, c);
            }
            int known = Math.min(made, 10);
            due("known of " + made, x.count(4), known);
            for (int left = known - 1; left >= 0; left--) {
                due("left of " + made, x.undo(), left);
            }
            due("no more of " + made, x.undo(), STATE);
            due("lost of " + made, x.person(0, 1), made - known);
        }
        mixedTenAreKnown();
    }

    private static void mixedTenAreKnown() {
        SquareLate x = told("p 1 0;p 2 6;");
        x.walk(0, 3);
        for (int i = 0; i < 2; i++) {
            x.smoke(5, 1);
            x.deed(1, i);
            x.day();
            x.walk(1, 12 + i);
            x.smoke(20, 1);
        }
        due("ten behind the first", x.count(4), 10);
        undo(x, 10);
        due("the day", x.now(0), 0);
        due("no deed", x.count(3), 0);
        due("no smoke", x.now(3), 0);
        due("where the second was", x.person(1, 1), 6);
        due("the first is lost", x.undo(), STATE);
        due("where the first went", x.person(0, 1), 3);
    }

    private static void refusedIsNone() {
        says("the latest of these that was not refused");
        SquareLate x = told("p 1 0;p 1 25;");
        x.walk(0, 7);
        x.walk(0, 7);
        x.walk(0, 26);
        x.die(2);
        x.smoke(3, 0);
        x.smoke(25, 1);
        x.deed(1, 0);
        x.deed(0, 8);
        x.type(256);
        x.keep(2);
        x.back(0);
        due("one is known", x.count(4), 1);
        due("it is the walk", x.undo(), 0);
        due("from where", x.person(0, 1), 0);
        x.keep(0);
        x.back(0);
        x.type('p');
        x.clear();
        x.hide(1, 0, 0);
        x.mark(0, 0);
        due("asking and keeping are none of these", x.undo(), STATE);
    }

    private static void undoneAtTheEdges() {
        says("UNDONE: the latest of these");
        SquareLate x = told("p 1 0;");
        pass(x, 99);
        due("the last day is undone", x.undo(), 9);
        due("it is 98", x.now(0), 98);
        due("98 did not go by", x.stood(98, 1), BAD);
        due("97 did", x.stood(97, 1), 1);
        due("and goes by again", x.day(), 99);
        due("ten are known again", x.count(4), 10);
        undo(x, 10);
        due("ten days back", x.now(0), 89);
        due("no more", x.undo(), STATE);
        due("still 89", x.now(0), 89);
    }

    private static void keptAnew() {
        says("THE DAY goes by: who is SEEN in the evening is KEPT");
        SquareLate x = told("p 1 0;p 1 1;l 1;");
        x.day();
        due("both", x.votes(1), 3);
        x.undo();
        due("none, undone", x.votes(1), 0);
        x.walk(0, 25);
        x.day();
        due("another evening", x.votes(1), 2);
        due("the first of one", x.days(0, 1), NONE);
    }

    private static void ofADeed() {
        says("Of the i-th DEED: 0 who, 1 ACT, 2 DAY, 3 CELL, 4 whether SEEN. BAD.");
        SquareLate x = told("p 1 0;p 2 24;c 0;");
        for (int n = 0; n < 12; n++) {
            int deeds = n;
            range("done(i, 0) of " + n, i -> x.done(i, 0), 0, deeds - 1);
            x.deed(n % 2, n % 8);
            if (n == 5) {
                pass(x, 99);
            }
        }
        range("done(i, 4) of 12", i -> x.done(i, 4), 0, 11);
        range("done(0, what)", what -> x.done(0, what), 0, 4);
        range("done(11, what)", what -> x.done(11, what), 0, 4);
        int[] first = {0, 0, 0, 0, 0};
        int[] last = {1, 3, 99, 24, 1};
        for (int what = 0; what < 5; what++) {
            due("of the first, " + what, x.done(0, what), first[what]);
            due("of the last, " + what, x.done(11, what), last[what]);
        }
        x.walk(1, 0);
        due("where it was done", x.done(11, 3), 24);
        undo(x, 2);
        due("of one undone", x.done(11, 0), BAD);
        due("of the one ahead", x.done(10, 1), 2);
    }
}
