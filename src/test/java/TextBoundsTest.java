/** The bounds of THE TEXT and of what it tells: promises 1 to 4. Each test is of one sentence of the document. */
public final class TextBoundsTest extends Checks {
    public static void main(String[] args) {
        aNewObject();
        aByte();
        aTextOf200Bytes();
        badAheadOfFull();
        clearedText();
        theTextIsEmptyThen();
        howManyItems();
        sixPeople();
        heights();
        cells();
        late();
        lateAtFirst();
        lateOnce();
        cloudDays();
        eightClouds();
        noDayTwice();
        acts();
        sixRules();
        toldAgain();
        unlike();
        blanksBetween();
        lettersSideBySide();
        lettersThatBeginNone();
        bytesThatBeginNone();
        aNumberAbove99();
        aZeroAhead();
        endsTooEarly();
        theFirstFault();
        aFaultChangesNothing();
        readAnew();
        end();
    }

    /** Reads a text into a new object; a FAULT leaves all its bytes, else none is left. */
    private static void reads(String text, int want) {
        SquareLate x = new SquareLate();
        write(x, text);
        due("square() of '" + text + "'", x.square(), want);
        due("count(5) behind '" + text + "'", x.count(5), want >= 0 ? 0 : text.length());
    }

    private static void fault(String text, int place) {
        reads(text, -10 - place);
    }

    /** A NUMBER between two pieces of an ITEM: just those from least to most can stand there. */
    private static void numbers(String ahead, String behind, int least, int most) {
        for (int n = 0; n <= 120; n++) {
            boolean allowed = n >= least && n <= most;
            reads(ahead + n + behind, allowed ? 1 : -10 - ahead.length());
        }
    }

    private static void aNewObject() {
        says("As told; nobody.");
        SquareLate x = new SquareLate();
        for (int what = 0; what < 6; what++) {
            due("count(" + what + ")", x.count(what), 0);
        }
        for (int what = 0; what < 4; what++) {
            due("now(" + what + ")", x.now(what), 0);
        }
        due("LATE", x.now(4), 12);
        for (int c = 0; c < 25; c++) {
            due("people in " + c, x.cell(c, 0), 0);
            due("smoke in " + c, x.cell(c, 1), 0);
        }
        for (int p = -1; p <= 6; p++) {
            due("person " + p, x.person(p, 0), BAD);
            due("walk of " + p, x.walk(p, 0), BAD);
            due("die of " + p, x.die(p), BAD);
            due("deed of " + p, x.deed(p, 0), BAD);
            due("hides of " + p, x.hides(p), BAD);
            due("days of " + p, x.days(p, 0), BAD);
        }
        due("no deed", x.done(0, 0), BAD);
        due("no deed counts", x.counts(0), BAD);
        due("no mark", x.mark(0, 0), NO);
        due("no round", x.round(), NONE);
        for (int act = 0; act < 8; act++) {
            due("holder of " + act, x.holder(act, 200), NONE);
        }
        due("nothing is undone", x.undo(), STATE);
        due("image 0", x.back(0), STATE);
        due("image 1", x.back(1), STATE);
        due("trace", x.trace(), 0);
        due("no DAY went by", x.stood(0, 1), BAD);
        due("clear", x.clear(), 0);
        due("square", x.square(), 0);
    }

    private static void aByte() {
        says("A byte (0 .. 255) comes to THE TEXT: how many it has. BAD");
        range("type", c -> new SquareLate().type(c), 0, 255);
        SquareLate x = new SquareLate();
        due("type(255)", x.type(255), 1);
        due("type(0)", x.type(0), 2);
        due("type(256)", x.type(256), BAD);
        due("type(-1)", x.type(-1), BAD);
        due("type of p and 256", x.type('p' + 256), BAD);
        due("refused ones did not come", x.count(5), 2);
        fault("p 1 0;" + (char) 255, 6);
        fault("p 1 0;" + (char) 0, 6);
    }

    private static void aTextOf200Bytes() {
        says("a text (200 bytes at most)");
        SquareLate x = new SquareLate();
        String text = " ".repeat(193) + "p 1 24;";
        for (int i = 0; i < 200; i++) {
            due("byte " + (i + 1), x.type(text.charAt(i)), i + 1);
        }
        due("byte 201", x.type(';'), FULL);
        due("byte 202", x.type(0), FULL);
        due("still 200", x.count(5), 200);
        due("the 200 as they were", x.square(), 1);
        due("the last of them told the cell", x.person(0, 1), 24);
        due("room again", x.type(32), 1);
        fault(" ".repeat(199) + "!", 199);
        fault("z" + " ".repeat(199), 0);
    }

    private static void badAheadOfFull() {
        says("Refused, and nothing changes, the first of these: BAD .., STATE .., FULL");
        SquareLate x = new SquareLate();
        write(x, " ".repeat(200));
        due("type(256) to a full text", x.type(256), BAD);
        due("type(-1) to a full text", x.type(-1), BAD);
        due("type(255) to a full text", x.type(255), FULL);
        due("nothing came", x.count(5), 200);
    }

    private static void clearedText() {
        says("THE TEXT is empty: how many bytes it had.");
        SquareLate x = told("p 3 4;");
        due("of none", x.clear(), 0);
        x.type('p');
        due("of one", x.clear(), 1);
        due("of none again", x.clear(), 0);
        write(x, "x".repeat(200));
        due("of 200", x.clear(), 200);
        due("empty", x.count(5), 0);
        due("room from the first on", x.type('l'), 1);
        write(x, " 7;");
        due("what was cleared is not read", x.square(), 1);
        due("what came since is", x.now(4), 7);
        SquareLate y = told("p 3 4;");
        y.walk(0, 9);
        write(y, "p 1 1;");
        y.clear();
        due("clear leaves the people", y.person(0, 1), 9);
        due("clear is nothing to be undone", y.count(4), 1);
    }

    private static void theTextIsEmptyThen() {
        says("THE TEXT tells all, and is empty then");
        SquareLate x = told("p 3 4;l 2;c 5;r 0 1;");
        due("bytes left", x.count(5), 0);
        due("nothing to clear", x.clear(), 0);
        due("the empty text tells nothing", x.square(), 0);
        for (int what = 0; what < 3; what++) {
            due("count(" + what + ")", x.count(what), 0);
        }
        due("LATE", x.now(4), 12);
    }

    private static void howManyItems() {
        says("how many ITEMS");
        reads("", 0);
        reads(" ", 0);
        reads(" ".repeat(200), 0);
        reads("p 1 0;", 1);
        reads("l 1;", 1);
        reads("c 0;", 1);
        reads("r 0 1;", 1);
        String most = "p1 0;".repeat(6) + "l1;" + "c0;c1;c2;c3;c4;c5;c6;c7;" + "r0 1;".repeat(6);
        reads(most, 21);
        reads(most + " ".repeat(200 - most.length()), 21);
        fault(most + "p", most.length());
        fault(most + "l", most.length());
        fault(most + "c", most.length());
        fault(most + "r", most.length());
    }

    private static void sixPeople() {
        says("PEOPLE 0 .. (6 of them at most), a seventh person");
        for (int n = 0; n <= 6; n++) {
            reads("p 1 0;".repeat(n), n);
            SquareLate x = told("p 1 0;".repeat(n));
            due("count(0)", x.count(0), n);
            range("person, of " + n, p -> x.person(p, 0), 0, n - 1);
        }
        fault("p 1 0;".repeat(7), 36);
        fault("p 1 0;".repeat(6) + "   p 1 0;", 39);
        fault("p 1 0;".repeat(6) + "p", 36);
        fault("p 1 0;".repeat(6) + "p 0 99;", 36);
        fault("p 1 25;".repeat(6) + "l 1;p 1 0;", 46);
    }

    private static void heights() {
        says("HEIGHT (1 .. 9)");
        numbers("p ", " 0;", 1, 9);
        for (int height = 1; height <= 9; height++) {
            due("height " + height, told("p " + height + " 0;").person(0, 0), height);
        }
    }

    private static void cells() {
        says("a CELL (0 .. 24; 25: not in the square)");
        numbers("p 9 ", ";", 0, 25);
        for (int c = 0; c <= 25; c++) {
            SquareLate x = told("p 1 " + c + ";");
            due("cell " + c, x.person(0, 1), c);
            due("seen in " + c, x.now(1), c <= 24 ? 1 : 0);
        }
        says("two may be in one CELL");
        due("two", told("p 1 24;p 1 24;").cell(24, 0), 3);
        due("six", told("p 1 0;".repeat(6)).cell(0, 0), 63);
    }

    private static void late() {
        says("LATE: days (1 .. 30");
        numbers("l ", ";", 1, 30);
        for (int n = 1; n <= 30; n++) {
            due("LATE " + n, told("l " + n + ";").now(4), n);
        }
    }

    private static void lateAtFirst() {
        says("12 at first");
        due("a new object", new SquareLate().now(4), 12);
        due("an empty text", told("").now(4), 12);
        due("a text without it", told("p 1 0;").now(4), 12);
        SquareLate x = told("l 30;");
        write(x, "p 1 0;");
        x.square();
        due("a text without it behind one with it", x.now(4), 12);
    }

    private static void lateOnce() {
        says("l N (late, once at most) .. l told again");
        fault("l 5;l 5;", 4);
        fault("l 12;l 12;", 5);
        fault("l 1;p 1 0;  l 30;", 12);
        fault("l 1;l", 4);
        fault("l 1;l 99;", 4);
        SquareLate x = told("l 5;");
        write(x, "l 6;");
        due("once in each text", x.square(), 1);
        due("as told last", x.now(4), 6);
    }

    private static void cloudDays() {
        says("CLOUDS: DAYS (0 .. 99");
        numbers("c ", ";", 0, 99);
        SquareLate x = told("p 1 0;c 0;c 99;");
        for (int day = 0; day <= 99; day++) {
            boolean cloud = day == 0 || day == 99;
            due("cloud on " + day, x.now(2), cloud ? 1 : 0);
            due("seen on " + day, x.now(1), cloud ? 0 : 1);
            x.day();
        }
    }

    private static void eightClouds() {
        says("8 at most .. a ninth cloud");
        StringBuilder text = new StringBuilder();
        for (int n = 0; n <= 8; n++) {
            reads(text.toString(), n);
            due("count(1)", told(text.toString()).count(1), n);
            text.append("c ").append(10 + n).append(';');
        }
        fault(text.toString(), 40);
        fault("c1;c2;c3;c4;c5;c6;c7;c8;  c9;", 26);
        fault("c1;c2;c3;c4;c5;c6;c7;c8;c8;", 24);
        fault("c1;c2;c3;c4;c5;c6;c7;c8;c", 24);
        fault("c1;c2;c3;c4;c5;c6;c7;c8;c 100;", 24);
        due("the eighth is one", told("c9;c8;c7;c6;c5;c4;c3;c0;").now(2), 1);
    }

    private static void noDayTwice() {
        says("a cloud; none twice .. a DAY told twice");
        fault("c 0;c 0;", 6);
        fault("c 99;c   99;", 9);
        fault("c1;c2;c3;c4;c5;c6;c7;c1;", 22);
        fault("c1;c2;c3;c4;c5;c6;c7;c7;", 22);
        fault("c 5;c 5", 6);
        reads("c 1;c 11;", 2);
        SquareLate x = told("c 5;");
        write(x, "c 5;");
        due("once in each text", x.square(), 1);
    }

    private static void acts() {
        says("ACTS 0 .. 7 .. a NUMBER beyond what it may be");
        for (int a = 0; a <= 12; a++) {
            for (int b = 0; b <= 12; b++) {
                String rule = "r " + a + " " + b + ";";
                int second = a > 9 ? 5 : 4;
                reads(rule, a > 7 ? -12 : b > 7 || b == a ? -10 - second : 1);
            }
        }
        fault("r 99 0;", 2);
        fault("r 0 99;", 4);
    }

    private static void sixRules() {
        says("RULES (6 at most) .. a seventh rule");
        for (int n = 0; n <= 6; n++) {
            String text = "r0 1;r1 2;r2 3;r3 4;r4 5;r5 6;".substring(0, 5 * n);
            reads(text, n);
            due("count(2)", told(text).count(2), n);
        }
        fault("r0 1;r1 2;r2 3;r3 4;r4 5;r5 6;r6 7;", 30);
        fault("r0 1;r1 2;r2 3;r3 4;r4 5;r5 6;  r 8 8;", 32);
        fault("r0 1;r1 2;r2 3;r3 4;r4 5;r5 6;r", 30);
    }

    private static void toldAgain() {
        says("a rule; told again: well, one more of the 6");
        for (int n = 1; n <= 6; n++) {
            due("count(2)", told("r 7 0;".repeat(n)).count(2), n);
        }
        fault("r 7 0;".repeat(7), 36);
        due("no round by it", told("r 7 0;".repeat(6)).round(), NONE);
    }

    private static void unlike() {
        says("ACT a gives ACT b (unlike) .. B that is A");
        for (int a = 0; a <= 7; a++) {
            fault("r " + a + " " + a + ";", 4);
            fault("r " + a + "   " + a, 6);
        }
    }

    private static void blanksBetween() {
        says("blanks (32) between TOKENS");
        reads("p1 0;l1;c0;r0 1;", 4);
        reads("   p   1   0   ;   l   1   ;   c   0   ;   r   0   1   ;   ", 4);
        reads("p1 0;", 1);
        fault("p10;", 1);
        fault("p 1 0 0;", 6);
        fault("c 1 2;", 4);
        for (int white : new int[] {0, 9, 10, 11, 12, 13, 31, 33, 160}) {
            fault("p" + (char) white + "1 0;", 1);
            fault("p 1" + (char) white + "0;", 3);
            fault("p 1 0;" + (char) white, 6);
        }
    }

    private static void lettersSideBySide() {
        says("TOKENS are letters a .. z side by side");
        fault("pp 1 0;", 0);
        fault("pl 1;", 0);
        fault("l 1;cc 1;", 4);
        fault("pa", 0);
        fault("pz", 0);
        fault("p p 1 0;", 2);
        fault("c 1;r r 0 1;", 6);
        fault("p 1 0 p", 6);
        fault("p 1p 0;", 3);
        fault("l 1l", 3);
        fault("p".repeat(200), 0);
    }

    private static void lettersThatBeginNone() {
        says("letters that begin no ITEM");
        for (char letter = 'a'; letter <= 'z'; letter++) {
            boolean begins = "plcr".indexOf(letter) >= 0;
            fault("" + letter, begins ? 1 : 0);
            fault("p 1 0; " + letter, begins ? 8 : 7);
        }
    }

    /** Every byte, in each of the places where it may come. */
    private static void bytesThatBeginNone() {
        says("of a byte that begins none .. that TOKEN's");
        for (int b = 0; b < 256; b++) {
            String sign = "" + (char) b;
            boolean blank = b == 32;
            boolean digit = b >= 48 && b <= 57;
            boolean letter = b >= 97 && b <= 122;
            boolean begins = b == 'p' || b == 'l' || b == 'c' || b == 'r';
            reads(sign, blank ? 0 : begins ? -11 : -10);
            reads("c" + sign, letter ? -10 : blank || digit ? -12 : -11);
            reads("c " + sign, blank || digit ? -13 : -12);
            reads("c 5" + sign, b == 59 ? 1 : blank || digit ? -14 : -13);
            reads("c 5 " + sign, b == 59 ? 1 : blank ? -15 : -14);
            reads("c 5;" + sign, blank ? 1 : begins ? -15 : -14);
        }
    }

    private static void aNumberAbove99() {
        says("a NUMBER above 99 .. that TOKEN's");
        reads("c 99;", 1);
        fault("c 100;", 2);
        fault("c   100", 4);
        fault("c 999;", 2);
        fault("p 100 0;", 2);
        fault("p 1 100;", 4);
        fault("l 100;", 2);
        fault("r 100 0;", 2);
        fault("r 0 100;", 4);
        fault("c 4294967296;", 2);
        fault("c 4294967301;", 2);
        fault("c 18446744073709551617;", 2);
        fault("c " + "9".repeat(198), 2);
        fault("c 5 100;", 4);
        fault("100", 0);
    }

    private static void aZeroAhead() {
        says("or with a 0 ahead of others, that TOKEN's");
        reads("c 0;", 1);
        reads("c0;c10;c20;", 3);
        for (int n = 0; n <= 9; n++) {
            fault("c 0" + n + ";", 2);
            fault("p 0" + n + " 0;", 2);
            fault("p 1 0" + n + ";", 4);
            fault("l 0" + n + ";", 2);
            fault("r 0" + n + " 7;", 2);
            fault("r 7 0" + n + ";", 4);
        }
        fault("c 000;", 2);
        fault("c 0" + "0".repeat(100) + "1;", 2);
        fault("l 012;", 2);
    }

    /** Every beginning of a text in which each ITEM has its largest numbers. */
    private static void endsTooEarly() {
        says("the text's length, if it ends too early");
        String text = "p 9 25;l 30;c 99;r 7 6;";
        int items = 0;
        boolean open = false;
        for (int length = 0; length <= text.length(); length++) {
            if (length > 0) {
                boolean stop = text.charAt(length - 1) == ';';
                items += stop ? 1 : 0;
                open = !stop;
            }
            reads(text.substring(0, length), open ? -10 - length : items);
            reads(text.substring(0, length) + "  ", open ? -12 - length : items);
        }
        fault(" ".repeat(199) + "p", 200);
        fault(" ".repeat(195) + "p 1 0", 200);
        reads(" ".repeat(194) + "p 1 0;", 1);
    }

    private static void theFirstFault() {
        says("the place of the first byte of the first TOKEN that can't stand there");
        fault("p 0 99;", 2);
        fault("p 1 99;A", 4);
        fault("p 1 26 100", 4);
        fault("q 100", 0);
        fault(";;", 0);
        fault("p 1 0;;", 6);
        fault("5 p 1 0;", 0);
        fault("p;", 1);
        fault("p 1;", 3);
        fault("l 1 1;", 4);
        fault("c 1 c 1", 4);
        fault("p 1 0;l 31;c 100;", 8);
    }

    private static void aFaultChangesNothing() {
        says("-10 less FAULT: nothing changes.");
        SquareLate x = told("p 5 3;p 2 8;l 4;c 7;r 0 1;");
        x.smoke(1, 1);
        x.deed(0, 0);
        x.keep(0);
        x.day();
        x.walk(0, 9);
        write(x, "p 1 0;p 1 1;p 1 2;l 9;c 1;c 2;r 6 7;r 7 6;p 0 0;");
        due("a FAULT in the last ITEM", x.square(), -54);
        due("the same again", x.square(), -54);
        int[] counts = {2, 1, 1, 1, 4, 48};
        for (int what = 0; what < 6; what++) {
            due("count(" + what + ")", x.count(what), counts[what]);
        }
        int[] now = {1, 3, 0, 0, 4};
        for (int what = 0; what < 5; what++) {
            due("now(" + what + ")", x.now(what), now[what]);
        }
        due("height", x.person(0, 0), 5);
        due("cell", x.person(0, 1), 9);
        due("no other round", x.round(), NONE);
        due("the rule", x.holder(1, 4), 0);
        due("the image", x.back(0), 0);
        due("its smoke", x.now(3), 2);
    }

    private static void readAnew() {
        says("(Read anew: as told, DAY 0, no SMOKE, no DEEDS, nothing to be UNDONE, IMAGES are gone.)");
        SquareLate x = told("p 5 3;p 2 8;l 1;c 7;r 0 1;");
        x.deed(0, 0);
        x.keep(0);
        x.day();
        x.keep(1);
        x.smoke(1, 1);
        x.die(1);
        write(x, "p 7 24;p 8 25;l 1;");
        due("square", x.square(), 3);
        int[] counts = {2, 0, 0, 0, 0, 0};
        for (int what = 0; what < 6; what++) {
            due("count(" + what + ")", x.count(what), counts[what]);
        }
        int[] now = {0, 1, 0, 0, 1};
        for (int what = 0; what < 5; what++) {
            due("now(" + what + ")", x.now(what), now[what]);
        }
        due("cell", x.person(0, 1), 24);
        due("alive, away", x.person(1, 1), 25);
        due("no deed", x.done(0, 0), BAD);
        due("no holder", x.holder(0, 200), NONE);
        due("nobody was KEPT", x.votes(1), 0);
        due("no DAY went by", x.stood(0, 7), BAD);
        due("image 0", x.back(0), STATE);
        due("image 1", x.back(1), STATE);
        due("undo", x.undo(), STATE);
    }
}
