import java.math.BigInteger;
import java.util.ArrayList;
import java.util.List;
import java.util.Random;
import java.util.regex.Matcher;
import java.util.regex.Pattern;

/**
 * Runs of calls, made by a fixed rule, against a second program that keeps a whole copy of NOW for each step and
 * searches for every answer instead of working it out.
 */
public final class ModelTest {
    private static final int RUNS = 400, CALLS = 512;
    private static final int BAD = -1, STATE = -2, FULL = -3, NONE = -9, NO = -1000000;

    private static int wrong = 0;

    public static void main(String[] args) {
        for (int run = 0; run < RUNS && wrong < 10; run++) {
            new Run(run).go();
        }
        System.out.println(wrong == 0 ? "all answers are as due" : wrong + " answers are not as due");
        if (wrong != 0) {
            System.exit(1);
        }
    }

    /** One run on one object and one model. */
    private static final class Run {
        private static final int[] WEIGHTS = {
            8, 12, 8, 8, 20, 4, 10, 20, 14, 10, 6, 6, 10, 2, 8, 10, 10, 6, 10, 5, 3, 5, 5, 4, 10, 4, 4, 4, 4
        };
        private final Random dice;
        private final int run;
        private final SquareLate it = new SquareLate();
        private final Model model = new Model();
        private int made = 0;

        Run(int run) {
            this.run = run;
            this.dice = new Random(run);
        }

        void go() {
            write(Texts.fine(dice));
            same("square()", it.square(), model.square());
            while (made < CALLS) {
                if (dice.nextInt(150) == 0) {
                    write(dice.nextBoolean() ? Texts.fine(dice) : Texts.spoilt(dice));
                    same("square()", it.square(), model.square());
                    if (dice.nextInt(3) > 0) {
                        same("clear()", it.clear(), model.clear());
                    }
                } else {
                    oneCall(choose());
                }
            }
        }

        private void write(String text) {
            for (int i = 0; i < text.length(); i++) {
                int c = text.charAt(i);
                same("type(" + c + ")", it.type(c), model.type(c));
            }
        }

        private void same(String call, long got, long want) {
            made++;
            if (got != want && made <= CALLS) {
                wrong++;
                System.out.println("run " + run + ", call " + made + ": " + call + " answered " + got + ", due is " + want);
            }
        }

        private int choose() {
            int all = 0;
            for (int weight : WEIGHTS) {
                all += weight;
            }
            int left = dice.nextInt(all);
            for (int i = 0; i < WEIGHTS.length; i++) {
                left -= WEIGHTS[i];
                if (left < 0) {
                    return i;
                }
            }
            return 0;
        }

        /** Mostly within 0 .. last, now and then just beyond or far off. */
        private int about(int last) {
            int r = dice.nextInt(40);
            if (r == 0) {
                return dice.nextInt();
            }
            return r == 1 ? -1 : r == 2 ? last + 1 : dice.nextInt(last + 1);
        }

        private int somebody() {
            return about(Math.max(0, model.heights.size() - 1));
        }

        private int somePeople() {
            return about((1 << model.heights.size()) - 1);
        }

        private void oneCall(int which) {
            int p = somebody();
            int q = somebody();
            int i = about(Math.max(0, model.now.deeds.size() - 1));
            int soon = dice.nextInt(3) == 0 ? about(200) : about(model.now.day + 20);
            switch (which) {
                case 0: { int w = about(2); same("person(" + p + ", " + w + ")", it.person(p, w), model.person(p, w)); break; }
                case 1: { int w = about(4); same("now(" + w + ")", it.now(w), model.now(w)); break; }
                case 2: { int c = about(24); int w = about(1); same("cell(" + c + ", " + w + ")", it.cell(c, w), model.cell(c, w)); break; }
                case 3: { int w = about(5); same("count(" + w + ")", it.count(w), model.count(w)); break; }
                case 4: { int c = about(25); same("walk(" + p + ", " + c + ")", it.walk(p, c), model.walk(p, c)); break; }
                case 5: if (dice.nextInt(4) == 0) { same("die(" + p + ")", it.die(p), model.die(p)); } break;
                case 6: { int c = about(24); int w = about(1); same("smoke(" + c + ", " + w + ")", it.smoke(c, w), model.smoke(c, w)); break; }
                case 7: { int a = about(7); if (dice.nextInt(3) == 0) { same("deed(" + p + ", " + a + ")", it.deed(p, a), model.deed(p, a)); } break; }
                case 8: same("day()", it.day(), model.day()); break;
                case 9: if (dice.nextInt(3) == 0) { for (int n = dice.nextInt(12); n >= 0; n--) { same("undo()", it.undo(), model.undo()); } } break;
                case 10: { int w = about(4); same("done(" + i + ", " + w + ")", it.done(i, w), model.done(i, w)); break; }
                case 11: same("counts(" + i + ")", it.counts(i), model.counts(i)); break;
                case 12: { int a = about(7); same("holder(" + a + ", " + soon + ")", it.holder(a, soon), model.holder(a, soon)); break; }
                case 13: same("round()", it.round(), model.round()); break;
                case 14: same("votes(" + soon + ")", it.votes(soon), model.votes(soon)); break;
                case 15: { int n = about(30); same("nearer(" + n + ", " + soon + ")", it.nearer(n, soon), model.nearer(n, soon)); break; }
                case 16: hide(); break;
                case 17: same("hides(" + p + ")", it.hides(p), model.hides(p)); break;
                case 18: same("blocks(" + p + ", " + q + ")", it.blocks(p, q), model.blocks(p, q)); break;
                default: anotherCall(which, p, i);
            }
        }

        private void hide() {
            int some = somePeople();
            int others = dice.nextInt(6) == 0 ? somePeople() : somePeople() & ~some;
            int w = about(1);
            same("hide(" + some + ", " + others + ", " + w + ")", it.hide(some, others, w), model.hide(some, others, w));
        }

        private void anotherCall(int which, int p, int i) {
            switch (which) {
                case 19: { int x = about(10); int k = about(9); int w = about(1); same("odds(" + x + ", " + k + ", " + w + ")", it.odds(x, k, w), model.odds(x, k, w)); break; }
                case 20: { int x = about(10); int y = about(10); same("often(" + x + ", " + y + ")", it.often(x, y), model.often(x, y)); break; }
                case 21: { int d = about(model.now.day); int h = about(9); same("stood(" + d + ", " + h + ")", it.stood(d, h), model.stood(d, h)); break; }
                case 22: { int w = about(2); same("days(" + p + ", " + w + ")", it.days(p, w), model.days(p, w)); break; }
                case 23: { int s = somePeople(); same("together(" + s + ")", it.together(s), model.together(s)); break; }
                case 24: { int k = about(5); same("mark(" + k + ", " + i + ")", it.mark(k, i), model.mark(k, i)); break; }
                case 25: same("trace()", it.trace(), model.trace); break;
                case 26: { int n = about(1); same("keep(" + n + ")", it.keep(n), model.keep(n)); break; }
                case 27: { int n = about(1); same("back(" + n + ")", it.back(n), model.back(n)); break; }
                default: { int c = about(255); same("type(" + c + ")", it.type(c), model.type(c)); same("clear()", it.clear(), model.clear()); break; }
            }
        }
    }

    /** Texts to be read. */
    private static final class Texts {
        private static String gap(Random dice, int least) {
            return " ".repeat(least + (dice.nextInt(5) == 0 ? 1 + dice.nextInt(2) : 0));
        }

        static String fine(Random dice) {
            StringBuilder text = new StringBuilder();
            int columns = 1 + dice.nextInt(5);
            for (int n = dice.nextInt(7); n > 0; n--) {
                int cell = dice.nextInt(8) == 0 ? 25 : 5 * dice.nextInt(5) + dice.nextInt(columns);
                text.append("p").append(gap(dice, 0)).append(1 + dice.nextInt(9)).append(gap(dice, 1)).append(cell).append(";");
            }
            if (dice.nextInt(5) > 0) {
                text.append("l").append(gap(dice, 0)).append(1 + dice.nextInt(dice.nextBoolean() ? 5 : 30)).append(";");
            }
            int day = -1;
            for (int n = dice.nextInt(5); n > 0; n--) {
                day += 1 + dice.nextInt(8);
                text.append("c").append(day).append(gap(dice, 0)).append(";");
            }
            for (int n = dice.nextInt(7); n > 0; n--) {
                int a = dice.nextInt(8);
                int b = (a + 1 + dice.nextInt(7)) % 8;
                text.append("r").append(a).append(gap(dice, 1)).append(b).append(";").append(gap(dice, 0));
            }
            return text.toString();
        }

        static String spoilt(Random dice) {
            String signs = "plcr;; 0123456789zA";
            StringBuilder text = new StringBuilder(fine(dice));
            for (int n = 1 + dice.nextInt(3); n > 0 && text.length() > 0; n--) {
                int at = dice.nextInt(text.length());
                char sign = signs.charAt(dice.nextInt(signs.length()));
                switch (dice.nextInt(4)) {
                    case 0: text.setCharAt(at, sign); break;
                    case 1: text.insert(at, sign); break;
                    case 2: text.deleteCharAt(at); break;
                    default: text.setLength(at); break;
                }
            }
            return text.toString();
        }
    }

    /** NOW, copied whole ahead of every step. */
    private static final class State {
        int day = 0;
        int[] cells = {};
        boolean[] smoke = new boolean[25];
        List<int[]> deeds = new ArrayList<>();
        List<Integer> kept = new ArrayList<>();
        List<State> past = new ArrayList<>();

        State copy() {
            State other = new State();
            other.day = day;
            other.cells = cells.clone();
            other.smoke = smoke.clone();
            other.deeds = new ArrayList<>(deeds);
            other.kept = new ArrayList<>(kept);
            other.past = new ArrayList<>(past);
            return other;
        }
    }

    /** The plain program. */
    private static final class Model {
        private static final Pattern TOKEN = Pattern.compile("[a-z]+|[0-9]+|;|[^ ]", Pattern.DOTALL);
        private final StringBuilder text = new StringBuilder();
        List<Integer> heights = new ArrayList<>();
        private List<Integer> clouds = new ArrayList<>();
        private List<int[]> rules = new ArrayList<>();
        private int late = 12;
        State now = new State();
        private final State[] images = new State[2];
        long trace = 0;

        int type(int c) {
            if (c < 0 || c > 255) {
                return BAD;
            }
            if (text.length() == 200) {
                return FULL;
            }
            text.append((char) c);
            return text.length();
        }

        int clear() {
            int had = text.length();
            text.setLength(0);
            return had;
        }

        int square() {
            List<Integer> tall = new ArrayList<>();
            List<Integer> where = new ArrayList<>();
            List<Integer> dark = new ArrayList<>();
            List<int[]> laws = new ArrayList<>();
            int lag = 0;
            List<String> item = new ArrayList<>();
            int items = 0;
            Matcher tokens = TOKEN.matcher(text);
            while (tokens.find()) {
                String token = tokens.group();
                if (!fits(item, token, tall.size(), lag, dark, laws.size())) {
                    return -10 - tokens.start();
                }
                item.add(token);
                if (token.equals(";")) {
                    items++;
                    int first = Integer.parseInt(item.get(1));
                    switch (item.get(0)) {
                        case "p": tall.add(first); where.add(Integer.parseInt(item.get(2))); break;
                        case "l": lag = first; break;
                        case "c": dark.add(first); break;
                        default: laws.add(new int[] {first, Integer.parseInt(item.get(2))}); break;
                    }
                    item.clear();
                }
            }
            if (!item.isEmpty()) {
                return -10 - text.length();
            }
            heights = tall;
            clouds = dark;
            rules = laws;
            late = lag == 0 ? 12 : lag;
            now = new State();
            now.cells = where.stream().mapToInt(Integer::intValue).toArray();
            images[0] = null;
            images[1] = null;
            text.setLength(0);
            return items;
        }

        private static boolean fits(List<String> item, String token, int people, int lag, List<Integer> dark, int laws) {
            if (item.isEmpty()) {
                return token.equals("p") && people < 6 || token.equals("l") && lag == 0
                    || token.equals("c") && dark.size() < 8 || token.equals("r") && laws < 6;
            }
            String kind = item.get(0);
            int numbers = kind.equals("p") || kind.equals("r") ? 2 : 1;
            if (item.size() > numbers) {
                return token.equals(";");
            }
            if (!token.matches("0|[1-9][0-9]?")) {
                return false;
            }
            int n = Integer.parseInt(token);
            switch (kind + item.size()) {
                case "p1": return n >= 1 && n <= 9;
                case "p2": return n <= 25;
                case "l1": return n >= 1 && n <= 30;
                case "c1": return !dark.contains(n);
                case "r1": return n <= 7;
                default: return n <= 7 && !token.equals(item.get(1));
            }
        }

        private boolean is(int p) {
            return p >= 0 && p < heights.size();
        }

        private boolean areSome(int bits) {
            return bits >= 0 && bits < 1 << heights.size();
        }

        private static boolean in(int n, int least, int most) {
            return n >= least && n <= most;
        }

        private boolean clear(int p, int[] cells, boolean[] smoke) {
            if (cells[p] > 24) {
                return false;
            }
            int row = cells[p] / 5;
            int column = cells[p] % 5;
            for (int r = 0; r <= row; r++) {
                if (smoke[5 * r + column]) {
                    return false;
                }
                for (int q = 0; q < cells.length && r < row; q++) {
                    if (cells[q] == 5 * r + column && heights.get(q) >= heights.get(p)) {
                        return false;
                    }
                }
            }
            return true;
        }

        private int clearOnes(int[] cells, boolean[] smoke) {
            int bits = 0;
            for (int p = 0; p < cells.length; p++) {
                bits += clear(p, cells, smoke) ? 1 << p : 0;
            }
            return bits;
        }

        private int seen() {
            return clouds.contains(now.day) ? 0 : clearOnes(now.cells, now.smoke);
        }

        int person(int p, int what) {
            if (!is(p) || !in(what, 0, 2)) {
                return BAD;
            }
            return what == 0 ? heights.get(p) : what == 1 ? now.cells[p] : seen() >> p & 1;
        }

        int cell(int c, int what) {
            if (!in(c, 0, 24) || !in(what, 0, 1)) {
                return BAD;
            }
            int bits = 0;
            for (int p = 0; p < now.cells.length; p++) {
                bits += now.cells[p] == c ? 1 << p : 0;
            }
            return what == 0 ? bits : now.smoke[c] ? 1 : 0;
        }

        int now(int what) {
            int smoke = 0;
            for (int c = 0; c < 25; c++) {
                smoke += now.smoke[c] ? 1 << c : 0;
            }
            int[] all = {now.day, seen(), clouds.contains(now.day) ? 1 : 0, smoke, late};
            return in(what, 0, 4) ? all[what] : BAD;
        }

        private void step() {
            State before = now.copy();
            now.past.add(before);
            if (now.past.size() > 10) {
                now.past.remove(0);
            }
        }

        int walk(int p, int c) {
            if (!is(p) || !in(c, 0, 25)) {
                return BAD;
            }
            if (now.cells[p] == c || now.cells[p] == 26) {
                return STATE;
            }
            step();
            int was = now.cells[p];
            now.cells[p] = c;
            return was;
        }

        int die(int p) {
            if (!is(p)) {
                return BAD;
            }
            if (now.cells[p] == 26) {
                return STATE;
            }
            step();
            int was = now.cells[p];
            now.cells[p] = 26;
            return was;
        }

        int smoke(int c, int is) {
            if (!in(c, 0, 24) || !in(is, 0, 1)) {
                return BAD;
            }
            if (now.smoke[c] == (is == 1)) {
                return STATE;
            }
            step();
            now.smoke[c] = is == 1;
            return Integer.bitCount(now(3));
        }

        int deed(int p, int act) {
            if (!is(p) || !in(act, 0, 7)) {
                return BAD;
            }
            if (now.cells[p] > 24) {
                return STATE;
            }
            if (now.deeds.size() == 12) {
                return FULL;
            }
            step();
            now.deeds.add(new int[] {p, act, now.day, now.cells[p], person(p, 2)});
            return person(p, 2);
        }

        int day() {
            if (now.day == 99) {
                return STATE;
            }
            step();
            now.kept.add(seen());
            now.smoke = new boolean[25];
            now.day++;
            return now.day;
        }

        int undo() {
            if (now.past.isEmpty()) {
                return STATE;
            }
            List<State> past = new ArrayList<>(now.past);
            State before = past.remove(past.size() - 1).copy();
            before.past = past;
            now = before;
            return past.size();
        }

        int done(int i, int what) {
            return in(i, 0, now.deeds.size() - 1) && in(what, 0, 4) ? now.deeds.get(i)[what] : BAD;
        }

        int counts(int i) {
            if (!in(i, 0, now.deeds.size() - 1)) {
                return BAD;
            }
            return done(i, 4) == 1 ? done(i, 2) + late : NONE;
        }

        private int own(int act, int day, int lag) {
            int who = NONE;
            for (int[] deed : now.deeds) {
                who = deed[1] == act && deed[4] == 1 && deed[2] + lag <= day ? deed[0] : who;
            }
            return who;
        }

        private int[][] ways() {
            int[][] ways = new int[8][8];
            for (int[] row : ways) {
                java.util.Arrays.fill(row, 1000);
            }
            for (int[] rule : rules) {
                ways[rule[0]][rule[1]] = 1;
            }
            for (int k = 0; k < 8; k++) {
                for (int a = 0; a < 8; a++) {
                    for (int b = 0; b < 8; b++) {
                        ways[a][b] = Math.min(ways[a][b], ways[a][k] + ways[k][b]);
                    }
                }
            }
            return ways;
        }

        private int holds(int act, int day, int lag) {
            int who = own(act, day, lag);
            int[][] ways = ways();
            for (int length = 1; length < 1000 && who == NONE; length++) {
                for (int a = 0; a < 8 && who == NONE; a++) {
                    who = ways[a][act] == length ? own(a, day, lag) : NONE;
                }
            }
            return who;
        }

        int holder(int act, int day) {
            return in(act, 0, 7) && in(day, 0, 200) ? holds(act, day, late) : BAD;
        }

        int round() {
            int[][] ways = ways();
            for (int a = 0; a < 8; a++) {
                if (ways[a][a] < 1000) {
                    return a;
                }
            }
            return NONE;
        }

        int votes(int day) {
            if (!in(day, 0, 200)) {
                return BAD;
            }
            return in(day - late, 0, now.day - 1) ? now.kept.get(day - late) : 0;
        }

        int nearer(int n, int day) {
            if (!in(n, 1, 30) || !in(day, 0, 200)) {
                return BAD;
            }
            int bits = 0;
            for (int a = 0; a < 8; a++) {
                bits += holds(a, day, n) != holds(a, day, late) ? 1 << a : 0;
            }
            return bits;
        }

        /** One CELL for each who is to be hidden is always enough, so sets of more CELLS are not tried. */
        int hide(int some, int others, int what) {
            if (!areSome(some) || !areSome(others) || (some & others) != 0 || !in(what, 0, 1)) {
                return BAD;
            }
            int clear = clearOnes(now.cells, now.smoke);
            for (int size = 0; size <= Integer.bitCount(some & clear); size++) {
                int set = size == 0 ? 0 : (1 << size) - 1;
                while (set < 1 << 25) {
                    if (hidesAll(set, some & clear, others & clear)) {
                        return what == 0 ? size : set;
                    }
                    if (set == 0) {
                        break;
                    }
                    int low = set & -set;
                    int next = set + low;
                    set = next | ((set ^ next) / low >> 2);
                }
            }
            return NONE;
        }

        private boolean hidesAll(int set, int some, int others) {
            boolean[] smoke = now.smoke.clone();
            for (int c = 0; c < 25; c++) {
                boolean more = (set >> c & 1) == 1;
                if (more && smoke[c]) {
                    return false;
                }
                smoke[c] |= more;
            }
            int clear = clearOnes(now.cells, smoke);
            return (clear & some) == 0 && (clear & others) == others;
        }

        int blocks(int walker, int p) {
            if (!is(walker) || !is(p) || walker == p || now.cells[p] > 24 || now.cells[walker] == 26) {
                return BAD;
            }
            int bits = 0;
            for (int c = 0; c < 25; c++) {
                int[] cells = now.cells.clone();
                cells[walker] = c;
                bits += clear(p, cells, now.smoke) ? 0 : 1 << c;
            }
            return bits;
        }

        int hides(int p) {
            if (!is(p)) {
                return BAD;
            }
            int[] cells = now.cells.clone();
            cells[p] = 25;
            return clearOnes(cells, now.smoke) & ~clearOnes(now.cells, now.smoke);
        }

        long odds(int x, int k, int what) {
            if (!in(x, 0, 10) || !in(k, 0, 9) || !in(what, 0, 1)) {
                return BAD;
            }
            BigInteger lower = BigInteger.TEN.pow(k);
            BigInteger upper = lower.subtract(BigInteger.valueOf(x).pow(k));
            return (what == 0 ? upper : lower).divide(upper.gcd(lower)).longValue();
        }

        int often(int x, int y) {
            if (!in(x, 0, 10) || !in(y, 0, 10)) {
                return BAD;
            }
            for (int k = 0; k <= 9; k++) {
                if (10 * odds(x, k, 0) >= y * odds(x, k, 1)) {
                    return k;
                }
            }
            return NONE;
        }

        int stood(int day, int height) {
            if (!in(day, 0, now.day - 1) || !in(height, 1, 9)) {
                return BAD;
            }
            int bits = 0;
            for (int p = 0; p < heights.size(); p++) {
                bits += heights.get(p) == height ? now.kept.get(day) & 1 << p : 0;
            }
            return bits;
        }

        int days(int p, int what) {
            if (!is(p) || !in(what, 0, 2)) {
                return BAD;
            }
            List<Integer> found = new ArrayList<>();
            for (int d = 0; d < now.day; d++) {
                if ((now.kept.get(d) >> p & 1) == 1) {
                    found.add(d);
                }
            }
            if (what == 0) {
                return found.size();
            }
            return found.isEmpty() ? NONE : found.get(what == 1 ? 0 : found.size() - 1);
        }

        int together(int some) {
            if (!areSome(some)) {
                return BAD;
            }
            int found = 0;
            for (int kept : now.kept) {
                found += (kept & some) == some ? 1 : 0;
            }
            return found;
        }

        int mark(int kind, int i) {
            if (!in(kind, 0, 5) || !in(i, 0, now.deeds.size() - 1)) {
                return NO;
            }
            int[] deed = now.deeds.get(i);
            long[] bodies = {1, 11, 101, 1011, 10101, 100001};
            trace += bodies[kind];
            int posed = deed[2] + heights.get(deed[0]);
            int hidden = deed[2] - deed[3] / 5;
            int twice = deed[2];
            for (int[] other : now.deeds) {
                twice += other[1] == deed[1] ? 1 : 0;
            }
            return new int[] {deed[2], posed, hidden, 2 * posed, hidden + clouds.size(), twice}[kind];
        }

        int keep(int image) {
            if (!in(image, 0, 1)) {
                return BAD;
            }
            images[image] = now.copy();
            return now.day;
        }

        int back(int image) {
            if (!in(image, 0, 1)) {
                return BAD;
            }
            if (images[image] == null) {
                return STATE;
            }
            now = images[image].copy();
            return now.day;
        }

        int count(int what) {
            int[] all = {heights.size(), clouds.size(), rules.size(), now.deeds.size(), now.past.size(), text.length()};
            return in(what, 0, 5) ? all[what] : BAD;
        }
    }
}
