/** For each promise: ordinary inputs, the edges that the document names, and wrong inputs. */
public final class PromisesTest extends Checks {
    public static void main(String[] args) {
        newObject();
        typeAndClear();
        square();
        faults();
        readAnew();
        personCellNow();
        seen();
        walk();
        die();
        smoke();
        deed();
        day();
        undo();
        undoForgets();
        done();
        counts();
        holder();
        holderByRules();
        round();
        votes();
        nearer();
        hide();
        blocks();
        hides();
        odds();
        often();
        stood();
        daysAndTogether();
        mark();
        images();
        count();
        trace();
        end();
    }

    private static void newObject() {
        SquareLate x = new SquareLate();
        int[] counts = {0, 0, 0, 0, 0, 0};
        for (int i = 0; i < 6; i++) {
            due("1: count(" + i + ")", x.count(i), counts[i]);
        }
        int[] now = {0, 0, 0, 0, 12};
        for (int i = 0; i < 5; i++) {
            due("1: now(" + i + ")", x.now(i), now[i]);
        }
        due("1: trace", x.trace(), 0);
        due("1: person", x.person(0, 0), BAD);
        due("1: walk", x.walk(0, 0), BAD);
        due("1: die", x.die(0), BAD);
        due("1: deed", x.deed(0, 0), BAD);
        due("1: undo", x.undo(), STATE);
        due("1: back", x.back(0), STATE);
        due("1: done", x.done(0, 0), BAD);
        due("1: hides", x.hides(0), BAD);
        due("1: blocks", x.blocks(0, 1), BAD);
        due("1: hide of none", x.hide(0, 0, 1), 0);
        due("1: hide of somebody", x.hide(1, 0, 1), BAD);
        due("1: together of somebody", x.together(1), BAD);
        due("1: smoke where nobody is", x.smoke(24, 1), 1);
        due("1: day", x.day(), 1);
        due("1: smoke is gone", x.now(3), 0);
    }

    private static void typeAndClear() {
        SquareLate x = new SquareLate();
        due("2: a byte below", x.type(-1), BAD);
        due("2: a byte beyond", x.type(256), BAD);
        due("3: clear of nothing", x.clear(), 0);
        for (int i = 0; i < 200; i++) {
            due("2: byte " + i, x.type(i % 2 == 0 ? 0 : 255), i + 1);
        }
        due("2: BAD ahead of FULL", x.type(256), BAD);
        due("2: full", x.type(32), FULL);
        due("2: still 200", x.count(5), 200);
        due("3: clear", x.clear(), 200);
        due("3: empty", x.count(5), 0);
        due("2: anew", x.type(32), 1);
    }

    private static void items(String text, int want) {
        SquareLate x = new SquareLate();
        write(x, text);
        due("4: square() of '" + text + "'", x.square(), want);
        due("4: bytes left of '" + text + "'", x.count(5), want >= 0 ? 0 : text.length());
    }

    private static void fault(String text, int place) {
        items(text, -10 - place);
    }

    private static void square() {
        items("", 0);
        items("    ", 0);
        items("p 1 0;", 1);
        items("p9 25;", 1);
        items("  p  9   25  ;  ", 1);
        items("p1 0;l1;c0;r0 1;", 4);
        items("l 30;", 1);
        items("c 99;", 1);
        items("r 7 6;", 1);
        items("p 1 0;".repeat(6), 6);
        items("c0;c1;c2;c3;c4;c5;c6;c7;", 8);
        items("r0 1;".repeat(6), 6);
        items("p 1 0;".repeat(6) + "l1;c0;c1;c2;c3;c4;c5;c6;c7;" + "r1 0;".repeat(6), 21);
        items(" ".repeat(194) + "p 1 0;", 1);
    }

    private static void faults() {
        fault("p", 1);
        fault("p ", 2);
        fault("p 1", 3);
        fault("p 1 0", 5);
        fault("p 1 0  ", 7);
        fault("p 1 0;l", 7);
        fault(" ".repeat(199) + "p", 200);
        fault(";", 0);
        fault("5", 0);
        fault("  7;", 2);
        fault("p;", 1);
        fault("p 1;", 3);
        fault("p 1 0 0;", 6);
        fault("p 1 0 p", 6);
        fault("p 1 0;;", 6);
        fault("p p 0;", 2);
        fault("p 1p 0;", 3);
        fault("pl 1;", 0);
        fault("lp 1;", 0);
        fault("pa 1 0;", 0);
        fault("pz 1 0;", 0);
        fault("a 1;", 0);
        fault("z 1;", 0);
        fault("P 1 0;", 0);
        fault("p -1 0;", 2);
        fault("p 1,0;", 3);
        fault("p\t1 0;", 1);
        fault("p 1 0;\n", 6);
        fault("p 1 0" + (char) 233 + ";", 5);
        fault("`", 0);
        fault("{", 0);
        fault("p /", 2);
        fault("p :", 2);
        fault("p 0 0;", 2);
        fault("p 10 0;", 2);
        fault("p 1 26;", 4);
        fault("p 1 00;", 4);
        fault("p 1 01;", 4);
        fault("p 01 1;", 2);
        fault("p 1 100;", 4);
        fault("c 100;", 2);
        fault("c 4294967296;", 2);
        fault("c " + "9".repeat(150) + ";", 2);
        fault("c 1 00;", 4);
        fault("l 0;", 2);
        fault("l 31;", 2);
        fault("l 5;p 1 0; l 5;", 11);
        fault("c 5;c 6;c 5;", 10);
        fault("c0;c1;c2;c3;c4;c5;c6;c7;c8;", 24);
        fault("c0;c1;c2;c3;c4;c5;c6;c7;c0;", 24);
        fault("r 8 0;", 2);
        fault("r 0 8;", 4);
        fault("r 3 3;", 4);
        fault("r0 1;".repeat(6) + "r2 3;", 30);
        fault("p1 0;".repeat(6) + "  p1 0;", 32);
        fault("p1 0;".repeat(6) + "p", 30);
        fault("p 1 0;p 1 99;", 10);
        fault("p 1 99;A", 4);
    }

    private static void readAnew() {
        SquareLate x = told("p 5 3;p 2 8;l 4;c 7;r 0 1;");
        x.smoke(1, 1);
        x.deed(0, 0);
        x.day();
        x.walk(0, 9);
        x.keep(0);
        x.keep(1);
        x.mark(0, 0);
        write(x, "p 1 0; l 9; x");
        due("4: a fault", x.square(), -22);
        due("4: nothing changes: people", x.count(0), 2);
        due("4: nothing changes: LATE", x.now(4), 4);
        due("4: nothing changes: DAY", x.now(0), 1);
        due("4: nothing changes: CELL", x.person(0, 1), 9);
        due("4: nothing changes: steps", x.count(4), 4);
        due("4: nothing changes: text", x.clear(), 13);
        due("4: nothing changes: image", x.back(1), 1);
        write(x, "p 7 24;");
        due("4: read anew", x.square(), 1);
        int[] counts = {1, 0, 0, 0, 0, 0};
        for (int i = 0; i < 6; i++) {
            due("4: anew, count(" + i + ")", x.count(i), counts[i]);
        }
        due("4: anew, DAY", x.now(0), 0);
        due("4: anew, SMOKE", x.now(3), 0);
        due("4: anew, LATE", x.now(4), 12);
        x.smoke(2, 1);
        write(x, "p 7 24;");
        x.square();
        due("4: anew, SMOKE of today", x.now(3), 0);
        due("4: anew, height", x.person(0, 0), 7);
        due("4: anew, cell", x.person(0, 1), 24);
        due("4: anew, others are none", x.person(1, 0), BAD);
        due("4: anew, image 0", x.back(0), STATE);
        due("4: anew, image 1", x.back(1), STATE);
        due("4: anew, nothing to undo", x.undo(), STATE);
        due("4: anew, no cloud", x.count(1), 0);
        due("4: anew, KEPT", x.votes(12), 0);
        due("32: THE TRACE goes on", x.trace(), 1);
        due("4: an empty text tells nobody", x.square(), 0);
        due("4: nobody", x.count(0), 0);
    }

    private static void personCellNow() {
        SquareLate x = told("p 5 7;p 9 7;p 1 25;c 1;l 3;");
        due("5: height", x.person(1, 0), 9);
        due("5: cell", x.person(1, 1), 7);
        due("5: seen", x.person(0, 2), 1);
        due("5: away", x.person(2, 1), 25);
        due("5: away is not seen", x.person(2, 2), 0);
        due("6: two in one cell", x.cell(7, 0), 3);
        due("6: nobody there", x.cell(0, 0), 0);
        due("6: no smoke", x.cell(7, 1), 0);
        x.smoke(7, 1);
        x.smoke(24, 1);
        due("6: smoke", x.cell(7, 1), 1);
        due("6: smoke in the last cell", x.cell(24, 1), 1);
        due("7: smoke", x.now(3), 1 << 7 | 1 << 24);
        due("7: nobody is seen in smoke", x.now(1), 0);
        due("7: no cloud", x.now(2), 0);
        x.die(2);
        due("5: nowhere", x.person(2, 1), 26);
        due("5: height of one who is nowhere", x.person(2, 0), 1);
        x.day();
        due("7: DAY", x.now(0), 1);
        due("7: cloud", x.now(2), 1);
        due("7: nobody is seen under a cloud", x.now(1), 0);
        due("5: not seen under a cloud", x.person(0, 2), 0);
        due("7: LATE", x.now(4), 3);
        for (int far : FAR) {
            due("5: person " + far, x.person(far, 0), BAD);
            due("5: what " + far, x.person(0, far), BAD);
            due("6: cell " + far, x.cell(far, 0), BAD);
            due("6: what " + far, x.cell(0, far), BAD);
            due("7: what " + far, x.now(far), BAD);
        }
        due("5: what 3", x.person(0, 3), BAD);
        due("5: person 3", x.person(3, 0), BAD);
        due("6: cell 25", x.cell(25, 0), BAD);
        due("6: what 2", x.cell(0, 2), BAD);
        due("7: what 5", x.now(5), BAD);
    }

    private static void seen() {
        due("2: as high hides", told("p 5 0;p 5 20;").now(1), 1);
        due("2: higher hides", told("p 6 15;p 5 20;").now(1), 1);
        due("2: lower does not", told("p 4 0;p 5 5;").now(1), 3);
        due("2: another column", told("p 9 0;p 5 6;").now(1), 3);
        due("2: one cell", told("p 9 12;p 5 12;p 1 12;").now(1), 7);
        due("2: hidden people hide, too", told("p 5 0;p 5 5;p 5 10;").now(1), 1);
        due("2: one away hides none", told("p 9 25;p 1 20;").now(1), 2);
        SquareLate x = told("p 1 10;p 2 15;p 3 20;p 4 21;");
        x.smoke(15, 1);
        due("2: smoke in his cell and ahead", x.now(1), 9);
        x.smoke(0, 1);
        due("2: smoke far ahead", x.now(1), 8);
        x.smoke(0, 0);
        x.smoke(15, 0);
        due("2: smoke taken", x.now(1), 15);
        x.walk(2, 0);
        due("2: one walks ahead", x.now(1), 12);
        x.die(2);
        due("2: the dead hide none", x.now(1), 11);
    }

    private static void walk() {
        SquareLate x = told("p 1 24;p 2 25;");
        due("8: from", x.walk(0, 0), 24);
        due("8: there", x.walk(0, 0), STATE);
        due("8: away", x.walk(0, 25), 0);
        due("8: away already", x.walk(0, 25), STATE);
        due("8: from away", x.walk(1, 24), 25);
        due("8: cell 26", x.walk(1, 26), BAD);
        due("8: nobody", x.walk(2, 0), BAD);
        for (int far : FAR) {
            due("8: person " + far, x.walk(far, 0), BAD);
            due("8: cell " + far, x.walk(0, far), BAD);
        }
        due("8: steps", x.count(4), 3);
        x.die(1);
        due("8: the dead do not walk", x.walk(1, 3), STATE);
        due("8: BAD ahead of STATE", x.walk(1, 26), BAD);
        due("8: steps then", x.count(4), 4);
    }

    private static void die() {
        SquareLate x = told("p 1 24;p 2 25;");
        due("9: in the square", x.die(0), 24);
        due("9: nowhere", x.person(0, 1), 26);
        due("9: in no cell", x.cell(24, 0), 0);
        due("9: again", x.die(0), STATE);
        due("9: away", x.die(1), 25);
        due("9: nobody", x.die(2), BAD);
        for (int far : FAR) {
            due("9: person " + far, x.die(far), BAD);
        }
        due("9: steps", x.count(4), 2);
        due("9: people are told as before", x.count(0), 2);
    }

    private static void smoke() {
        SquareLate x = told("");
        due("10: none to take", x.smoke(0, 0), STATE);
        due("10: one", x.smoke(0, 1), 1);
        due("10: two", x.smoke(24, 1), 2);
        due("10: again", x.smoke(24, 1), STATE);
        due("10: taken", x.smoke(0, 0), 1);
        due("10: bits", x.now(3), 1 << 24);
        due("10: cell 25", x.smoke(25, 1), BAD);
        due("10: is 2", x.smoke(0, 2), BAD);
        due("10: is -1", x.smoke(0, -1), BAD);
        for (int far : FAR) {
            due("10: cell " + far, x.smoke(far, 1), BAD);
            due("10: is " + far, x.smoke(0, far), BAD);
        }
        due("10: steps", x.count(4), 3);
    }

    private static void deed() {
        SquareLate x = told("p 5 0;p 5 5;p 1 25;c 1;");
        due("11: seen", x.deed(0, 0), 1);
        due("11: hidden", x.deed(1, 7), 0);
        due("11: away", x.deed(2, 0), STATE);
        due("11: act 8", x.deed(0, 8), BAD);
        due("11: BAD ahead of STATE", x.deed(2, 8), BAD);
        due("11: nobody", x.deed(3, 0), BAD);
        for (int far : FAR) {
            due("11: person " + far, x.deed(far, 0), BAD);
            due("11: act " + far, x.deed(0, far), BAD);
        }
        x.smoke(0, 1);
        due("11: in smoke", x.deed(0, 0), 0);
        x.day();
        due("11: under a cloud", x.deed(0, 0), 0);
        x.die(1);
        due("11: nowhere", x.deed(1, 0), STATE);
        due("11: settled then", x.done(0, 4), 1);
        due("11: how many", x.count(3), 4);
        for (int i = 4; i < 12; i++) {
            due("11: deed " + i, x.deed(0, 3), 0);
        }
        due("11: full", x.deed(0, 3), FULL);
        due("11: STATE ahead of FULL", x.deed(2, 3), STATE);
        due("11: BAD ahead of FULL", x.deed(0, -1), BAD);
        x.undo();
        due("11: room again", x.deed(0, 3), 0);
    }

    private static void day() {
        SquareLate x = told("p 5 0;p 4 1;l 1;c 2;");
        x.smoke(1, 1);
        due("12: DAY 1", x.day(), 1);
        due("12: smoke is gone", x.now(3), 0);
        due("12: smoke hid one", x.votes(1), 1);
        x.day();
        due("12: KEPT", x.votes(2), 3);
        x.day();
        due("12: cloud", x.votes(3), 0);
        for (int i = 4; i < 100; i++) {
            due("12: DAY " + i, x.day(), i);
        }
        x.smoke(3, 1);
        due("12: the last", x.day(), STATE);
        due("12: no more", x.now(0), 99);
        due("12: smoke stays", x.now(3), 8);
        due("12: DAY 98 went by", x.stood(98, 5), 1);
        due("12: DAY 99 did not", x.stood(99, 5), BAD);
    }

    private static void undo() {
        SquareLate x = told("p 5 0;p 4 25;l 1;");
        x.walk(0, 7);
        x.walk(1, 3);
        x.smoke(7, 1);
        x.smoke(8, 1);
        x.smoke(7, 0);
        x.deed(0, 2);
        x.day();
        x.die(0);
        due("13: steps", x.count(4), 8);
        x.walk(0, 3);
        x.smoke(3, 0);
        x.deed(0, 0);
        x.deed(9, 0);
        due("13: what was refused is none", x.count(4), 8);
        due("13: die", x.undo(), 7);
        due("13: alive", x.person(0, 1), 7);
        due("13: day", x.undo(), 6);
        due("13: DAY", x.now(0), 0);
        due("13: smoke is there again", x.now(3), 1 << 8);
        due("13: KEPT is not", x.votes(1), 0);
        due("13: no DAY went by", x.stood(0, 5), BAD);
        due("13: deed", x.undo(), 5);
        due("13: no deed", x.count(3), 0);
        due("13: smoke taken", x.undo(), 4);
        due("13: is there", x.now(3), 1 << 7 | 1 << 8);
        due("13: smoke put", x.undo(), 3);
        due("13: is not", x.now(3), 1 << 7);
        due("13: smoke put", x.undo(), 2);
        due("13: none", x.now(3), 0);
        due("13: walk", x.undo(), 1);
        due("13: away again", x.person(1, 1), 25);
        due("13: walk", x.undo(), 0);
        due("13: as told", x.person(0, 1), 0);
        due("13: none", x.undo(), STATE);
        due("13: still none", x.undo(), STATE);
    }

    private static void undoForgets() {
        SquareLate x = told("p 5 0;");
        for (int c = 1; c <= 12; c++) {
            x.walk(0, c);
            due("13: known", x.count(4), Math.min(c, 10));
        }
        for (int left = 9; left >= 0; left--) {
            due("13: left", x.undo(), left);
            due("13: where", x.person(0, 1), 2 + left);
        }
        due("13: older ones are lost", x.undo(), STATE);
        due("13: where he was then", x.person(0, 1), 2);
    }

    private static void done() {
        SquareLate x = told("p 5 23;p 4 2;c 0;");
        x.deed(1, 7);
        x.day();
        x.deed(0, 3);
        x.walk(0, 1);
        int[] first = {1, 7, 0, 2, 0};
        int[] second = {0, 3, 1, 23, 1};
        for (int what = 0; what < 5; what++) {
            due("14: first, " + what, x.done(0, what), first[what]);
            due("14: second, " + what, x.done(1, what), second[what]);
        }
        due("14: what 5", x.done(0, 5), BAD);
        due("14: deed 2", x.done(2, 0), BAD);
        for (int far : FAR) {
            due("14: deed " + far, x.done(far, 0), BAD);
            due("14: what " + far, x.done(0, far), BAD);
            due("15: deed " + far, x.counts(far), BAD);
        }
        x.undo();
        x.undo();
        due("14: undone", x.done(1, 0), BAD);
    }

    private static void counts() {
        SquareLate x = told("p 5 0;l 30;c 1;");
        x.deed(0, 0);
        x.day();
        x.deed(0, 0);
        x.day();
        x.deed(0, 0);
        due("15: DAY 0", x.counts(0), 30);
        due("15: cloud", x.counts(1), NONE);
        due("15: DAY 2", x.counts(2), 32);
        due("15: none", x.counts(3), BAD);
    }

    private static void holder() {
        SquareLate x = told("p 5 0;p 5 1;l 5;p 5 2;");
        x.deed(0, 4);
        x.deed(1, 4);
        x.day();
        x.deed(2, 4);
        x.smoke(0, 1);
        x.deed(0, 4);
        due("16: not yet", x.holder(4, 4), NONE);
        due("16: of one DAY the latest", x.holder(4, 5), 1);
        due("16: the one done last", x.holder(4, 6), 2);
        due("16: for ever", x.holder(4, 200), 2);
        due("16: another act", x.holder(3, 200), NONE);
        x.die(2);
        due("16: dead since", x.holder(4, 200), 2);
        due("16: DAY 0", x.holder(4, 0), NONE);
        due("16: DAY 201", x.holder(4, 201), BAD);
        due("16: act 8", x.holder(8, 0), BAD);
        for (int far : FAR) {
            due("16: act " + far, x.holder(far, 0), BAD);
            due("16: DAY " + far, x.holder(0, far), BAD);
        }
    }

    private static void holderByRules() {
        SquareLate x = told("p 5 0;p 5 1;p 5 2;l 1;r 0 1;r 1 2;r 2 3;r 3 0;r 6 2;r 1 5;");
        x.deed(0, 0);
        due("16: its own", x.holder(0, 1), 0);
        due("16: one rule", x.holder(1, 1), 0);
        due("16: two rules", x.holder(2, 1), 0);
        due("16: three rules", x.holder(3, 1), 0);
        due("16: by another way", x.holder(5, 1), 0);
        due("16: not backwards", x.holder(6, 1), NONE);
        due("16: no rule", x.holder(7, 1), NONE);
        x.day();
        x.deed(1, 6);
        due("16: fewest rules", x.holder(2, 2), 1);
        due("16: and on", x.holder(3, 2), 1);
        due("16: not yet", x.holder(2, 1), 0);
        x.deed(2, 1);
        due("16: of several the least act", x.holder(2, 2), 2);
        due("16: round without end", x.holder(0, 2), 0);
        SquareLate chain = told("p 5 0;l 1;r 0 1;r 1 2;r 2 3;r 3 4;r 4 5;r 5 6;");
        chain.deed(0, 0);
        due("16: six rules", chain.holder(6, 1), 0);
        SquareLate own = told("p 5 0;p 5 1;l 1;r 0 1;");
        own.deed(1, 1);
        own.day();
        own.deed(0, 0);
        due("16: its own ahead of a later claim", own.holder(1, 50), 1);
    }

    private static void round() {
        due("17: none", told("r 0 1;r 1 2;r 0 2;").round(), NONE);
        due("17: two", told("r 7 6;r 6 7;").round(), 6);
        due("17: the least", told("r 5 4;r 4 5;r 2 3;r 3 2;").round(), 2);
        due("17: one that leads there only", told("r 0 3;r 3 4;r 4 3;").round(), 3);
        due("17: six", told("r 1 2;r 2 3;r 3 4;r 4 5;r 5 6;r 6 1;").round(), 1);
        due("17: act 0", told("r 7 0;r 0 7;").round(), 0);
        due("17: told again", told("r 0 1;r 0 1;").round(), NONE);
    }

    private static void votes() {
        SquareLate x = told("p 5 0;p 5 1;l 2;");
        x.day();
        x.die(0);
        x.day();
        due("18: ahead of all", x.votes(1), 0);
        due("18: dead since", x.votes(2), 3);
        due("18: the next", x.votes(3), 2);
        due("18: not by yet", x.votes(4), 0);
        due("18: DAY 200", x.votes(200), 0);
        due("18: DAY 0", x.votes(0), 0);
        due("18: DAY 201", x.votes(201), BAD);
        for (int far : FAR) {
            due("18: DAY " + far, x.votes(far), BAD);
        }
    }

    private static void nearer() {
        SquareLate x = told("p 5 0;p 5 1;l 10;r 3 4;");
        x.deed(0, 3);
        x.deed(1, 7);
        x.day();
        x.deed(1, 3);
        x.deed(1, 7);
        due("19: as it is", x.nearer(10, 10), 0);
        due("19: nobody yet", x.nearer(9, 8), 0);
        due("19: one is instead of none", x.nearer(9, 9), 1 << 3 | 1 << 4 | 1 << 7);
        due("19: another one, the same one", x.nearer(9, 10), 1 << 3 | 1 << 4);
        due("19: none instead", x.nearer(30, 29), 1 << 3 | 1 << 4 | 1 << 7);
        due("19: the same in the end", x.nearer(30, 31), 0);
        due("19: the least", x.nearer(1, 0), 0);
        SquareLate y = told("p 5 0;l 2;");
        y.deed(0, 0);
        due("19: act 0", y.nearer(1, 1), 1);
        due("19: LATE stays", x.now(4), 10);
        due("19: n 0", x.nearer(0, 0), BAD);
        due("19: n 31", x.nearer(31, 0), BAD);
        due("19: DAY 201", x.nearer(1, 201), BAD);
        due("19: DAY 200", x.nearer(1, 200), 0);
        for (int far : FAR) {
            due("19: n " + far, x.nearer(far, 0), BAD);
            due("19: DAY " + far, x.nearer(1, far), BAD);
        }
    }

    private static void hide() {
        SquareLate x = told("p 1 1;p 2 11;p 3 21;p 5 13;p 5 25;p 9 23;c 0;");
        due("20: a column", x.hide(2, 1, 1), 1 << 6);
        due("20: cloud not asked", x.hide(2, 1, 0), 1);
        due("20: between others", x.hide(4, 3, 1), 1 << 16);
        due("20: one ahead of another", x.hide(1, 4, 0), NONE);
        due("20: and its set", x.hide(1, 4, 1), NONE);
        due("20: two columns", x.hide(12, 2, 0), 2);
        due("20: and their set", x.hide(12, 2, 1), 1 << 16 | 1 << 3);
        due("20: one can't, so all can't", x.hide(9, 4, 0), NONE);
        due("20: all", x.hide(63, 0, 1), 1 << 1 | 1 << 3);
        due("20: one away", x.hide(16, 15, 0), 0);
        due("20: none", x.hide(0, 63, 1), 0);
        x.smoke(8, 1);
        due("20: hidden already", x.hide(8, 0, 0), 0);
        due("20: others hidden already", x.hide(2, 9, 1), 1 << 6);
        due("20: one in both", x.hide(3, 2, 0), BAD);
        due("20: bits of none", x.hide(64, 0, 0), BAD);
        due("20: others of none", x.hide(0, 64, 0), BAD);
        due("20: what 2", x.hide(0, 0, 2), BAD);
        for (int far : FAR) {
            due("20: some " + far, x.hide(far, 0, 0), BAD);
            due("20: others " + far, x.hide(0, far, 0), BAD);
            due("20: what " + far, x.hide(0, 0, far), BAD);
        }
        due("20: nothing is put", x.now(3), 1 << 8);
        due("20: in one cell", told("p 1 10;p 2 10;").hide(1, 2, 0), NONE);
        due("20: in the front row", told("p 1 4;").hide(1, 0, 1), 16);
        due("20: one hidden by people stays out", told("p 9 0;p 1 20;").hide(2, 1, 0), 0);
    }

    private static void blocks() {
        SquareLate x = told("p 5 25;p 5 22;p 4 7;c 0;");
        due("21: as high", x.blocks(0, 1), 1 << 2 | 1 << 7 | 1 << 12 | 1 << 17);
        due("21: too low", x.blocks(2, 1), 0);
        due("21: he is behind", x.blocks(1, 2), 1 << 2);
        x.walk(0, 17);
        due("21: where he is now, too", x.blocks(0, 1), 1 << 2 | 1 << 7 | 1 << 12 | 1 << 17);
        due("21: hidden by another", x.blocks(2, 1), ALL_CELLS);
        x.walk(0, 0);
        x.smoke(12, 1);
        due("21: in smoke", x.blocks(0, 1), ALL_CELLS);
        due("21: nobody moved", x.person(0, 1), 0);
        due("21: one and the same", x.blocks(1, 1), BAD);
        due("21: nobody", x.blocks(3, 1), BAD);
        due("21: of nobody", x.blocks(1, 3), BAD);
        x.walk(1, 25);
        due("21: one who is away", x.blocks(0, 1), BAD);
        due("21: a walker who is away", x.blocks(1, 0), 0);
        x.die(1);
        due("21: one who is nowhere", x.blocks(0, 1), BAD);
        due("21: a walker who is nowhere", x.blocks(1, 0), BAD);
        for (int far : FAR) {
            due("21: walker " + far, x.blocks(far, 0), BAD);
            due("21: person " + far, x.blocks(0, far), BAD);
        }
    }

    private static void hides() {
        SquareLate x = told("p 5 0;p 5 5;p 6 10;p 2 20;p 6 21;p 1 22;c 0;");
        due("22: one alone, cloud not asked", x.hides(0), 2);
        due("22: not alone", x.hides(1), 0);
        due("22: nobody", x.hides(3), 0);
        x.walk(1, 25);
        due("22: two hide one", x.hides(0), 0);
        x.walk(2, 1);
        due("22: one and the other", x.hides(0), 8);
        due("22: in another column", x.hides(2), 16);
        x.smoke(15, 1);
        due("22: in smoke anyhow", x.hides(0), 0);
        due("22: away", x.hides(1), 0);
        x.die(1);
        due("22: nowhere", x.hides(1), 0);
        due("22: none", x.hides(6), BAD);
        for (int far : FAR) {
            due("22: person " + far, x.hides(far), BAD);
        }
    }

    private static void odds() {
        SquareLate x = new SquareLate();
        long[][] rows = {
            {0, 0, 0, 1}, {10, 0, 0, 1}, {5, 0, 0, 1}, {0, 1, 1, 1}, {0, 9, 1, 1}, {10, 9, 0, 1},
            {5, 1, 1, 2}, {5, 2, 3, 4}, {5, 9, 511, 512}, {2, 3, 124, 125}, {4, 1, 3, 5}, {9, 1, 1, 10},
            {9, 9, 612579511L, 1000000000L}, {1, 9, 999999999L, 1000000000L}, {8, 2, 9, 25}
        };
        for (long[] row : rows) {
            int days = (int) row[1];
            due("23: upper of " + row[0] + ", " + days, x.odds((int) row[0], days, 0), row[2]);
            due("23: lower of " + row[0] + ", " + days, x.odds((int) row[0], days, 1), row[3]);
        }
        due("23: x 11", x.odds(11, 0, 0), BAD);
        due("23: k 10", x.odds(0, 10, 0), BAD);
        due("23: what 2", x.odds(0, 0, 2), BAD);
        for (int far : FAR) {
            due("23: x " + far, x.odds(far, 0, 0), BAD);
            due("23: k " + far, x.odds(0, far, 0), BAD);
            due("23: what " + far, x.odds(0, 0, far), BAD);
        }
    }

    private static void often() {
        SquareLate x = new SquareLate();
        due("24: nothing asked", x.often(10, 0), 0);
        due("24: always cloud", x.often(10, 1), NONE);
        due("24: never cloud", x.often(0, 10), 1);
        due("24: just so", x.often(5, 5), 1);
        due("24: just so, of two", x.often(1, 9), 1);
        due("24: one more", x.often(5, 6), 2);
        due("24: never sure", x.often(1, 10), NONE);
        due("24: nine", x.often(9, 6), 9);
        due("24: more than nine", x.often(9, 7), NONE);
        due("24: eight", x.often(8, 8), 8);
        due("24: x 11", x.often(11, 0), BAD);
        due("24: y 11", x.often(0, 11), BAD);
        for (int far : FAR) {
            due("24: x " + far, x.often(far, 0), BAD);
            due("24: y " + far, x.often(0, far), BAD);
        }
    }

    private static void stood() {
        SquareLate x = told("p 5 0;p 5 1;p 7 2;p 5 6;");
        due("25: not by yet", x.stood(0, 5), BAD);
        x.day();
        x.die(0);
        x.day();
        due("25: of a height", x.stood(0, 5), 3);
        due("25: of another", x.stood(0, 7), 4);
        due("25: of none", x.stood(0, 1), 0);
        due("25: the next DAY", x.stood(1, 5), 2);
        due("25: today", x.stood(2, 5), BAD);
        due("25: height 0", x.stood(0, 0), BAD);
        due("25: height 10", x.stood(0, 10), BAD);
        due("25: height 9", x.stood(0, 9), 0);
        for (int far : FAR) {
            due("25: DAY " + far, x.stood(far, 5), BAD);
            due("25: height " + far, x.stood(0, far), BAD);
        }
    }

    private static void daysAndTogether() {
        SquareLate x = told("p 5 0;p 5 1;p 5 25;c 0;c 3;");
        due("26: none yet", x.days(0, 0), 0);
        due("26: no first", x.days(0, 1), NONE);
        due("26: no last", x.days(0, 2), NONE);
        due("27: none yet", x.together(0), 0);
        pass(x, 2);
        x.smoke(1, 1);
        pass(x, 3);
        x.die(0);
        pass(x, 1);
        due("26: how many", x.days(0, 0), 3);
        due("26: first", x.days(0, 1), 1);
        due("26: last", x.days(0, 2), 4);
        due("26: the other one", x.days(1, 0), 3);
        due("26: his first", x.days(1, 1), 1);
        due("26: his last", x.days(1, 2), 5);
        due("26: never", x.days(2, 0), 0);
        due("26: never a first", x.days(2, 1), NONE);
        due("26: never a last", x.days(2, 2), NONE);
        due("27: both", x.together(3), 2);
        due("27: one", x.together(1), 3);
        due("27: nobody", x.together(0), 6);
        due("27: one who never was", x.together(7), 0);
        due("27: bits of none", x.together(8), BAD);
        SquareLate y = told("p 5 0;p 5 1;");
        y.day();
        y.die(0);
        y.day();
        due("26: DAY 0 is the first", y.days(0, 1), 0);
        due("26: DAY 0 is the last", y.days(0, 2), 0);
        due("26: today is none", y.days(1, 2), 1);
        due("26: what 3", x.days(0, 3), BAD);
        due("26: person 3", x.days(3, 0), BAD);
        for (int far : FAR) {
            due("26: person " + far, x.days(far, 0), BAD);
            due("26: what " + far, x.days(0, far), BAD);
            due("27: some " + far, x.together(far), BAD);
        }
    }

    private static void mark() {
        SquareLate x = told("p 9 24;p 4 7;c 50;c 51;c 52;");
        pass(x, 3);
        x.deed(0, 6);
        x.deed(1, 6);
        x.walk(0, 0);
        x.deed(1, 5);
        x.day();
        int[] first = {3, 12, -1, 24, 2, 5};
        int[] last = {3, 7, 2, 14, 5, 4};
        for (int kind = 0; kind < 6; kind++) {
            due("28: first, " + kind, x.mark(kind, 0), first[kind]);
            due("28: last, " + kind, x.mark(kind, 2), last[kind]);
        }
        due("28: kind 6", x.mark(6, 0), NO);
        due("28: deed 3", x.mark(0, 3), NO);
        for (int far : FAR) {
            due("28: kind " + far, x.mark(far, 0), NO);
            due("28: deed " + far, x.mark(0, far), NO);
        }
    }

    private static void images() {
        SquareLate x = told("p 5 0;p 6 1;l 1;");
        x.deed(0, 2);
        x.smoke(9, 1);
        due("29: keep", x.keep(0), 0);
        x.day();
        x.die(1);
        due("29: keep another", x.keep(1), 1);
        due("30: back", x.back(0), 0);
        due("30: alive", x.person(1, 1), 1);
        due("30: smoke", x.now(3), 1 << 9);
        due("30: may be undone", x.count(4), 2);
        due("30: not by", x.stood(0, 5), BAD);
        x.walk(0, 4);
        x.deed(0, 2);
        due("30: forth", x.back(1), 1);
        due("30: dead", x.person(1, 1), 26);
        due("30: where", x.person(0, 1), 0);
        due("30: deeds", x.count(3), 1);
        due("30: KEPT", x.stood(0, 5), 1);
        due("30: undo", x.undo(), 3);
        due("30: undone", x.person(1, 1), 1);
        due("30: undo the day", x.undo(), 2);
        due("30: its smoke", x.now(3), 1 << 9);
        due("30: an image stays", x.back(1), 1);
        due("29: kept anew", x.keep(0), 1);
        x.undo();
        due("30: as kept last", x.back(0), 1);
        due("30: dead again", x.person(1, 1), 26);
        write(x, "zz");
        x.mark(0, 0);
        x.back(1);
        due("30: THE TEXT is not of it", x.count(5), 2);
        due("30: THE TRACE is not of it", x.trace(), 1);
        due("29: image 2", x.keep(2), BAD);
        due("30: image 2", x.back(2), BAD);
        for (int far : FAR) {
            due("29: image " + far, x.keep(far), BAD);
            due("30: image " + far, x.back(far), BAD);
        }
        due("30: none was kept", told("").back(0), STATE);
        imagesKeepDeedsAndDays();
    }

    /** What an IMAGE has is its own: other DEEDS and DAYS afterwards do not come into it. */
    private static void imagesKeepDeedsAndDays() {
        SquareLate x = told("p 5 0;p 6 1;l 1;");
        x.deed(0, 2);
        x.day();
        x.keep(0);
        x.undo();
        x.undo();
        x.deed(1, 7);
        x.die(0);
        x.day();
        x.keep(1);
        x.back(0);
        due("30: who did it", x.done(0, 0), 0);
        due("30: which act", x.done(0, 1), 2);
        due("30: who was KEPT", x.votes(1), 3);
        x.back(1);
        due("30: who else did it", x.done(0, 0), 1);
        due("30: which other act", x.done(0, 1), 7);
        due("30: who else was KEPT", x.votes(1), 2);
    }

    private static void count() {
        SquareLate x = told("p 5 0;p 6 25;c 1;c 2;c 3;r 0 1;r 0 1;r 1 0;r 2 0;");
        x.deed(0, 2);
        x.die(0);
        x.day();
        write(x, "hello");
        int[] want = {2, 3, 4, 1, 3, 5};
        for (int i = 0; i < 6; i++) {
            due("31: count(" + i + ")", x.count(i), want[i]);
        }
        due("31: what 6", x.count(6), BAD);
        for (int far : FAR) {
            due("31: what " + far, x.count(far), BAD);
        }
    }

    private static void trace() {
        SquareLate x = told("p 5 0;");
        x.deed(0, 2);
        long[] want = {1, 11, 101, 1011, 10101, 100001};
        long sum = 0;
        for (int kind = 0; kind < 6; kind++) {
            x.mark(kind, 0);
            sum += want[kind];
            due("32: kind " + kind, x.trace(), sum);
        }
        x.mark(6, 0);
        x.mark(0, 1);
        due("32: what was refused is none", x.trace(), sum);
        x.undo();
        due("32: it is not undone", x.trace(), sum);
    }
}
