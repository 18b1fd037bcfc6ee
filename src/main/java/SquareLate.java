/** A square that a mirror of ice shows LATE days later; by law only what is seen in the mirror counts. */
public final class SquareLate {
    public static final int BAD = -1, STATE = -2, FULL = -3, NONE = -9;
    public static final int NO = -1000000;

    private static final int ROWS = 5, COLUMNS = 5, CELLS = 25, AWAY = 25, NOWHERE = 26;
    private static final int MOST_PEOPLE = 6, MOST_CLOUDS = 8, MOST_RULES = 6, MOST_BYTES = 200;
    private static final int MOST_DEEDS = 12, MOST_STEPS = 10, ACTS = 8, KINDS = 6, IMAGES = 2;
    private static final int LAST_DAY = 99, LAST_ASKED_DAY = 200, HIGHEST = 9;
    private static final int FIRST_LATE = 12, LATEST = 30, TENTHS = 10, MOST_TIMES = 9;
    private static final int FAULTS = -10;

    private static final int WHO = 0, ACT = 1, DAY = 2, CELL = 3, SEEN = 4, DEED_FIELDS = 5;

    private final int[] text = new int[MOST_BYTES];
    private int length;
    private final Told told = new Told();
    private final Told draft = new Told();
    private final Reader reader = new Reader(text, draft);
    private final Now present = new Now(told);
    private final Now[] images = {new Now(told), new Now(told)};
    private final boolean[] kept = new boolean[IMAGES];
    private final Claims claims = new Claims(told, present);
    private final Asked asked = new Asked(told, present);
    private final Plain[] kinds = {
        new Plain(), new Posed(), new Hidden(), new Lawful(), new Clouded(), new Twice()
    };

    public SquareLate() {
    }

    // ---- the square

    public int type(int c) {
        if (isBeyond(c, 255)) {
            return BAD;
        }
        if (length >= MOST_BYTES) {
            return FULL;
        }
        text[length] = c;
        length++;
        return length;
    }

    public int clear() {
        int had = length;
        length = 0;
        return had;
    }

    public int square() {
        int items = reader.readAll(length);
        if (items < 0) {
            return items;
        }
        told.become(draft);
        present.begin();
        for (int i = 0; i < IMAGES; i++) {
            kept[i] = false;
        }
        length = 0;
        return items;
    }

    public int person(int p, int what) {
        if (!told.hasPerson(p) || isBeyond(what, 2)) {
            return BAD;
        }
        switch (what) {
            case 0: return told.heights[p];
            case 1: return present.cells[p];
            default: return bit(present.seen(), p);
        }
    }

    public int cell(int c, int what) {
        if (isBeyond(c, CELLS - 1) || isBeyond(what, 1)) {
            return BAD;
        }
        return what == 0 ? present.peopleIn(c) : bit(present.smoke, c);
    }

    public int now(int what) {
        switch (what) {
            case 0: return present.day;
            case 1: return present.seen();
            case 2: return told.hasCloud(present.day) ? 1 : 0;
            case 3: return present.smoke;
            case 4: return told.late;
            default: return BAD;
        }
    }

    // ---- days

    public int walk(int p, int c) {
        if (!told.hasPerson(p) || isBeyond(c, AWAY)) {
            return BAD;
        }
        if (present.cells[p] == c || present.cells[p] == NOWHERE) {
            return STATE;
        }
        return present.move(p, c);
    }

    public int die(int p) {
        if (!told.hasPerson(p)) {
            return BAD;
        }
        if (present.cells[p] == NOWHERE) {
            return STATE;
        }
        return present.move(p, NOWHERE);
    }

    public int smoke(int c, int is) {
        if (isBeyond(c, CELLS - 1) || isBeyond(is, 1)) {
            return BAD;
        }
        if (bit(present.smoke, c) == is) {
            return STATE;
        }
        present.turnSmoke(c);
        return Integer.bitCount(present.smoke);
    }

    public int deed(int p, int act) {
        if (!told.hasPerson(p) || isBeyond(act, ACTS - 1)) {
            return BAD;
        }
        if (!isInSquare(present.cells[p])) {
            return STATE;
        }
        if (present.deeds >= MOST_DEEDS) {
            return FULL;
        }
        return present.act(p, act);
    }

    public int day() {
        if (present.day >= LAST_DAY) {
            return STATE;
        }
        present.passDay();
        return present.day;
    }

    public int undo() {
        if (present.steps <= 0) {
            return STATE;
        }
        present.takeBack();
        return present.steps;
    }

    public int done(int i, int what) {
        if (!present.hasDeed(i) || isBeyond(what, DEED_FIELDS - 1)) {
            return BAD;
        }
        return present.ofDeed(i, what);
    }

    // ---- what counts

    public int counts(int i) {
        if (!present.hasDeed(i)) {
            return BAD;
        }
        return present.ofDeed(i, SEEN) == 1 ? present.ofDeed(i, DAY) + told.late : NONE;
    }

    public int holder(int act, int day) {
        if (isBeyond(act, ACTS - 1) || isBeyond(day, LAST_ASKED_DAY)) {
            return BAD;
        }
        return claims.whoHolds(act, day, told.late);
    }

    public int round() {
        for (int act = 0; act < ACTS; act++) {
            if (claims.comesBack(act)) {
                return act;
            }
        }
        return NONE;
    }

    public int votes(int day) {
        if (isBeyond(day, LAST_ASKED_DAY)) {
            return BAD;
        }
        return present.keptOn(day - told.late);
    }

    public int nearer(int n, int day) {
        if (n < 1 || n > LATEST || isBeyond(day, LAST_ASKED_DAY)) {
            return BAD;
        }
        int changed = 0;
        for (int act = 0; act < ACTS; act++) {
            if (claims.whoHolds(act, day, n) != claims.whoHolds(act, day, told.late)) {
                changed |= 1 << act;
            }
        }
        return changed;
    }

    // ---- sights

    public int hide(int some, int others, int what) {
        if (!told.areBits(some) || !told.areBits(others) || (some & others) != 0 || isBeyond(what, 1)) {
            return BAD;
        }
        int set = present.leastSmoke(some, others);
        if (set == NONE) {
            return NONE;
        }
        return what == 0 ? Integer.bitCount(set) : set;
    }

    public int blocks(int walker, int p) {
        if (!told.hasPerson(walker) || !told.hasPerson(p) || walker == p) {
            return BAD;
        }
        if (!isInSquare(present.cells[p]) || present.cells[walker] == NOWHERE) {
            return BAD;
        }
        int found = 0;
        for (int c = 0; c < CELLS; c++) {
            if (!present.shows(p, walker, c)) {
                found |= 1 << c;
            }
        }
        return found;
    }

    public int hides(int p) {
        if (!told.hasPerson(p)) {
            return BAD;
        }
        return present.shownIf(p, AWAY) & ~present.shown();
    }

    public long odds(int x, int k, int what) {
        if (isBeyond(x, TENTHS) || isBeyond(k, MOST_TIMES) || isBeyond(what, 1)) {
            return BAD;
        }
        long lower = power(TENTHS, k);
        long upper = lower - power(x, k);
        long common = Math.max(1, commonDivisor(lower, upper));
        return (what == 0 ? upper : lower) / common;
    }

    public int often(int x, int y) {
        if (isBeyond(x, TENTHS) || isBeyond(y, TENTHS)) {
            return BAD;
        }
        for (int k = 0; k <= MOST_TIMES; k++) {
            long lower = power(TENTHS, k);
            if (TENTHS * (lower - power(x, k)) >= y * lower) {
                return k;
            }
        }
        return NONE;
    }

    public int stood(int day, int height) {
        if (day < 0 || day >= present.day || height < 1 || height > HIGHEST) {
            return BAD;
        }
        return present.keptOn(day) & told.ofHeight(height);
    }

    public int days(int p, int what) {
        if (!told.hasPerson(p) || isBeyond(what, 2)) {
            return BAD;
        }
        switch (what) {
            case 0: return present.daysKept(1 << p);
            case 1: return present.firstDayKept(p);
            default: return present.lastDayKept(p);
        }
    }

    public int together(int some) {
        if (!told.areBits(some)) {
            return BAD;
        }
        return present.daysKept(some);
    }

    // ---- kinds, images

    public int mark(int kind, int i) {
        if (isBeyond(kind, KINDS - 1) || !present.hasDeed(i)) {
            return NO;
        }
        asked.deed = i;
        return kinds[kind].worth(asked);
    }

    public int keep(int image) {
        if (isBeyond(image, IMAGES - 1)) {
            return BAD;
        }
        images[image].become(present);
        kept[image] = true;
        return present.day;
    }

    public int back(int image) {
        if (isBeyond(image, IMAGES - 1)) {
            return BAD;
        }
        if (!kept[image]) {
            return STATE;
        }
        present.become(images[image]);
        return present.day;
    }

    public int count(int what) {
        switch (what) {
            case 0: return told.people;
            case 1: return told.clouds;
            case 2: return told.rules;
            case 3: return present.deeds;
            case 4: return present.steps;
            case 5: return length;
            default: return BAD;
        }
    }

    public long trace() {
        return asked.trace;
    }

    // ---- numbers

    private static boolean isBeyond(int number, int last) {
        return number < 0 || number > last;
    }

    private static boolean isInSquare(int cell) {
        return cell >= 0 && cell < CELLS;
    }

    private static int bit(int set, int place) {
        return (set >> place) & 1;
    }

    private static long power(int base, int times) {
        long product = 1;
        for (int i = 0; i < times; i++) {
            product *= base;
        }
        return product;
    }

    private static long commonDivisor(long a, long b) {
        long greater = a;
        long lesser = b;
        // Numbers up to a thousand million need fewer than 50 steps.
        for (int i = 0; i < 100 && lesser != 0; i++) {
            long rest = greater % lesser;
            greater = lesser;
            lesser = rest;
        }
        return greater;
    }

    /** What a text tells: people, LATE, CLOUDS and RULES. */
    private static final class Told {
        int people;
        int clouds;
        int rules;
        int late = FIRST_LATE;
        final int[] heights = new int[MOST_PEOPLE];
        final int[] starts = new int[MOST_PEOPLE];
        final int[] cloudDays = new int[MOST_CLOUDS];
        final int[] giving = new int[MOST_RULES];
        final int[] given = new int[MOST_RULES];

        void forget() {
            people = 0;
            clouds = 0;
            rules = 0;
            late = FIRST_LATE;
        }

        void become(Told other) {
            people = other.people;
            clouds = other.clouds;
            rules = other.rules;
            late = other.late;
            System.arraycopy(other.heights, 0, heights, 0, MOST_PEOPLE);
            System.arraycopy(other.starts, 0, starts, 0, MOST_PEOPLE);
            System.arraycopy(other.cloudDays, 0, cloudDays, 0, MOST_CLOUDS);
            System.arraycopy(other.giving, 0, giving, 0, MOST_RULES);
            System.arraycopy(other.given, 0, given, 0, MOST_RULES);
        }

        boolean hasPerson(int p) {
            return p >= 0 && p < people;
        }

        boolean areBits(int some) {
            return some >= 0 && some < (1 << people);
        }

        boolean hasCloud(int day) {
            for (int i = 0; i < clouds; i++) {
                if (cloudDays[i] == day) {
                    return true;
                }
            }
            return false;
        }

        int ofHeight(int height) {
            int found = 0;
            for (int p = 0; p < people; p++) {
                if (heights[p] == height) {
                    found |= 1 << p;
                }
            }
            return found;
        }

        int actsGiving(int acts) {
            return actsAcross(acts, given, giving);
        }

        int actsGivenBy(int acts) {
            return actsAcross(acts, giving, given);
        }

        private int actsAcross(int acts, int[] near, int[] far) {
            int found = 0;
            for (int i = 0; i < rules; i++) {
                if (bit(acts, near[i]) == 1) {
                    found |= 1 << far[i];
                }
            }
            return found;
        }
    }

    /** Reads THE TEXT, TOKEN by TOKEN, into a draft, so that a FAULT leaves what was told before. */
    private static final class Reader {
        private static final int END = 0, LETTERS = 1, NUMBER = 2, STOP = 3, WRONG = 4;
        private static final int LARGEST = 99;

        private final int[] bytes;
        private final Told draft;
        private int length;
        private int at;
        private boolean lateTold;
        private int start;
        private int token;
        private int value;

        Reader(int[] bytes, Told draft) {
            this.bytes = bytes;
            this.draft = draft;
        }

        /** How many ITEMS, or -10 less FAULT. */
        int readAll(int bytesTold) {
            length = Math.min(bytesTold, bytes.length);
            at = 0;
            lateTold = false;
            draft.forget();
            int items = 0;
            // Every ITEM takes a byte at least, so the bound is never what ends this.
            for (int i = 0; i <= MOST_BYTES; i++) {
                nextToken();
                if (token == END) {
                    return items;
                }
                if (!readItem()) {
                    return FAULTS - start;
                }
                items++;
            }
            return items;
        }

        private boolean readItem() {
            if (token != LETTERS) {
                return false;
            }
            switch (value) {
                case 'p': return readPerson();
                case 'l': return readLate();
                case 'c': return readCloud();
                case 'r': return readRule();
                default: return false;
            }
        }

        private boolean readPerson() {
            int p = draft.people;
            if (p >= MOST_PEOPLE || !readNumber(1, HIGHEST)) {
                return false;
            }
            draft.heights[p] = value;
            if (!readNumber(0, AWAY)) {
                return false;
            }
            draft.starts[p] = value;
            draft.people++;
            return readStop();
        }

        private boolean readLate() {
            if (lateTold || !readNumber(1, LATEST)) {
                return false;
            }
            lateTold = true;
            draft.late = value;
            return readStop();
        }

        private boolean readCloud() {
            int i = draft.clouds;
            if (i >= MOST_CLOUDS || !readNumber(0, LAST_DAY) || draft.hasCloud(value)) {
                return false;
            }
            draft.cloudDays[i] = value;
            draft.clouds++;
            return readStop();
        }

        private boolean readRule() {
            int i = draft.rules;
            if (i >= MOST_RULES || !readNumber(0, ACTS - 1)) {
                return false;
            }
            draft.giving[i] = value;
            if (!readNumber(0, ACTS - 1) || value == draft.giving[i]) {
                return false;
            }
            draft.given[i] = value;
            draft.rules++;
            return readStop();
        }

        private boolean readNumber(int least, int most) {
            nextToken();
            return token == NUMBER && value >= least && value <= most;
        }

        private boolean readStop() {
            nextToken();
            return token == STOP;
        }

        private void nextToken() {
            while (at < length && bytes[at] == ' ') {
                at++;
            }
            start = at;
            if (at >= length) {
                token = END;
            } else if (isLetter(bytes[at])) {
                takeLetters();
            } else if (isDigit(bytes[at])) {
                takeDigits();
            } else {
                token = bytes[at] == ';' ? STOP : WRONG;
                at++;
            }
        }

        /** No ITEM has more than one letter, so of longer ones the value is none's. */
        private void takeLetters() {
            token = LETTERS;
            value = bytes[at];
            at++;
            while (at < length && isLetter(bytes[at])) {
                value = 0;
                at++;
            }
        }

        private void takeDigits() {
            boolean zeroAhead = bytes[at] == '0';
            value = 0;
            while (at < length && isDigit(bytes[at])) {
                // Held just above the largest, so that 200 digits do not wrap around.
                value = Math.min(value * 10 + bytes[at] - '0', LARGEST + 1);
                at++;
            }
            boolean wrong = value > LARGEST || (zeroAhead && at - start > 1);
            token = wrong ? WRONG : NUMBER;
        }

        private static boolean isLetter(int c) {
            return c >= 'a' && c <= 'z';
        }

        private static boolean isDigit(int c) {
            return c >= '0' && c <= '9';
        }
    }

    /** NOW: all that goes on in the square, and what an IMAGE keeps of it. */
    private static final class Now {
        private static final int MOVED = 0, SMOKED = 1, ACTED = 2, PASSED = 3, STEP_FIELDS = 3;
        private static final int NOBODY = -1;

        private final Told told;
        int day;
        int smoke;
        int deeds;
        int steps;
        final int[] cells = new int[MOST_PEOPLE];
        private final int[] deedRows = new int[MOST_DEEDS * DEED_FIELDS];
        private final int[] keptRow = new int[LAST_DAY];
        private final int[] stepRows = new int[MOST_STEPS * STEP_FIELDS];

        Now(Told told) {
            this.told = told;
        }

        void begin() {
            day = 0;
            smoke = 0;
            deeds = 0;
            steps = 0;
            System.arraycopy(told.starts, 0, cells, 0, MOST_PEOPLE);
        }

        void become(Now other) {
            day = other.day;
            smoke = other.smoke;
            deeds = other.deeds;
            steps = other.steps;
            System.arraycopy(other.cells, 0, cells, 0, cells.length);
            System.arraycopy(other.deedRows, 0, deedRows, 0, deedRows.length);
            System.arraycopy(other.keptRow, 0, keptRow, 0, keptRow.length);
            System.arraycopy(other.stepRows, 0, stepRows, 0, stepRows.length);
        }

        // What is done

        int move(int p, int to) {
            int from = cells[p];
            remember(MOVED, p, from);
            cells[p] = to;
            return from;
        }

        void turnSmoke(int c) {
            remember(SMOKED, NOBODY, smoke);
            smoke ^= 1 << c;
        }

        int act(int p, int act) {
            int isSeen = bit(seen(), p);
            remember(ACTED, p, deeds);
            int at = deeds * DEED_FIELDS;
            deedRows[at + WHO] = p;
            deedRows[at + ACT] = act;
            deedRows[at + DAY] = day;
            deedRows[at + CELL] = cells[p];
            deedRows[at + SEEN] = isSeen;
            deeds++;
            return isSeen;
        }

        void passDay() {
            remember(PASSED, NOBODY, smoke);
            keptRow[day] = seen();
            smoke = 0;
            day++;
        }

        private void remember(int what, int who, int old) {
            if (steps >= MOST_STEPS) {
                steps = MOST_STEPS - 1;
                System.arraycopy(stepRows, STEP_FIELDS, stepRows, 0, steps * STEP_FIELDS);
            }
            int at = steps * STEP_FIELDS;
            stepRows[at] = what;
            stepRows[at + 1] = who;
            stepRows[at + 2] = old;
            steps++;
        }

        void takeBack() {
            steps--;
            int at = steps * STEP_FIELDS;
            int old = stepRows[at + 2];
            switch (stepRows[at]) {
                case MOVED:
                    cells[stepRows[at + 1]] = old;
                    break;
                case SMOKED:
                    smoke = old;
                    break;
                case ACTED:
                    deeds = old;
                    break;
                default:
                    smoke = old;
                    day--;
                    break;
            }
        }

        // What was done

        boolean hasDeed(int i) {
            return i >= 0 && i < deeds;
        }

        int ofDeed(int i, int what) {
            return deedRows[i * DEED_FIELDS + what];
        }

        int deedsOfAct(int act) {
            int found = 0;
            for (int i = 0; i < deeds; i++) {
                if (ofDeed(i, ACT) == act) {
                    found++;
                }
            }
            return found;
        }

        int keptOn(int asked) {
            return asked >= 0 && asked < day ? keptRow[asked] : 0;
        }

        int daysKept(int some) {
            int found = 0;
            for (int d = 0; d < day; d++) {
                if ((keptRow[d] & some) == some) {
                    found++;
                }
            }
            return found;
        }

        int firstDayKept(int p) {
            for (int d = 0; d < day; d++) {
                if (bit(keptRow[d], p) == 1) {
                    return d;
                }
            }
            return NONE;
        }

        int lastDayKept(int p) {
            for (int d = day - 1; d >= 0; d--) {
                if (bit(keptRow[d], p) == 1) {
                    return d;
                }
            }
            return NONE;
        }

        // Who is seen

        int peopleIn(int c) {
            int found = 0;
            for (int p = 0; p < told.people; p++) {
                if (cells[p] == c) {
                    found |= 1 << p;
                }
            }
            return found;
        }

        int seen() {
            return told.hasCloud(day) ? 0 : shown();
        }

        /** Who is SEEN, CLOUD not asked. */
        int shown() {
            return shownIf(NOBODY, AWAY);
        }

        /** Who would be SEEN, CLOUD not asked, if the mover were in another CELL. */
        int shownIf(int mover, int where) {
            int found = 0;
            for (int p = 0; p < told.people; p++) {
                if (shows(p, mover, where)) {
                    found |= 1 << p;
                }
            }
            return found;
        }

        boolean shows(int p, int mover, int where) {
            int mine = p == mover ? where : cells[p];
            if (!isInSquare(mine) || isInSmoke(mine)) {
                return false;
            }
            for (int q = 0; q < told.people; q++) {
                int his = q == mover ? where : cells[q];
                if (told.heights[q] >= told.heights[p] && isAhead(his, mine)) {
                    return false;
                }
            }
            return true;
        }

        private boolean isInSmoke(int cell) {
            for (int c = cell; c >= 0; c -= COLUMNS) {
                if (bit(smoke, c) == 1) {
                    return true;
                }
            }
            return false;
        }

        private static boolean isAhead(int one, int other) {
            return isInSquare(one) && one < other && one % COLUMNS == other % COLUMNS;
        }

        /**
         * One CELL of SMOKE hides all behind it in its COLUMN, so each COLUMN with somebody to hide needs just
         * one, and the nearest to the mirror that leaves the others is the least.
         */
        int leastSmoke(int some, int others) {
            int shown = shown();
            int set = 0;
            for (int column = 0; column < COLUMNS; column++) {
                int last = nearestRow(some & shown, column);
                int first = farthestRow(others & shown, column) + 1;
                if (last < ROWS && first > last) {
                    return NONE;
                }
                if (last < ROWS) {
                    set |= 1 << (first * COLUMNS + column);
                }
            }
            return set;
        }

        /** ROWS, if none of them is in the COLUMN. */
        private int nearestRow(int some, int column) {
            int row = ROWS;
            for (int p = 0; p < told.people; p++) {
                if (bit(some, p) == 1 && cells[p] % COLUMNS == column) {
                    row = Math.min(row, cells[p] / COLUMNS);
                }
            }
            return row;
        }

        /** -1, if none of them is in the COLUMN. */
        private int farthestRow(int some, int column) {
            int row = -1;
            for (int p = 0; p < told.people; p++) {
                if (bit(some, p) == 1 && cells[p] % COLUMNS == column) {
                    row = Math.max(row, cells[p] / COLUMNS);
                }
            }
            return row;
        }
    }

    /** Who holds what, by DEEDS that COUNT and by RULES. */
    private static final class Claims {
        private final Told told;
        private final Now now;

        Claims(Told told, Now now) {
            this.told = told;
            this.now = now;
        }

        /** Goes back by RULES, ring by ring, so that the first one found is of the fewest RULES. */
        int whoHolds(int act, int day, int late) {
            int ring = 1 << act;
            int reached = ring;
            for (int rules = 0; rules < ACTS; rules++) {
                int who = leastActsDoer(ring, day, late);
                if (who != NONE) {
                    return who;
                }
                ring = told.actsGiving(ring) & ~reached;
                reached |= ring;
            }
            return NONE;
        }

        private int leastActsDoer(int acts, int day, int late) {
            for (int act = 0; act < ACTS; act++) {
                int who = bit(acts, act) == 1 ? lastDoer(act, day, late) : NONE;
                if (who != NONE) {
                    return who;
                }
            }
            return NONE;
        }

        /** DEEDS stand in the order of their DAYS, so the last one that COUNTS is the one. */
        private int lastDoer(int act, int day, int late) {
            for (int i = now.deeds - 1; i >= 0; i--) {
                boolean counts = now.ofDeed(i, SEEN) == 1 && now.ofDeed(i, DAY) + late <= day;
                if (counts && now.ofDeed(i, ACT) == act) {
                    return now.ofDeed(i, WHO);
                }
            }
            return NONE;
        }

        boolean comesBack(int act) {
            int reached = told.actsGivenBy(1 << act);
            for (int rules = 0; rules < ACTS; rules++) {
                reached |= told.actsGivenBy(reached);
            }
            return bit(reached, act) == 1;
        }
    }

    /** The DEED of which a MARK is asked, and THE TRACE of the bodies that were. */
    private static final class Asked {
        final Told told;
        final Now now;
        int deed;
        long trace;

        Asked(Told told, Now now) {
            this.told = told;
            this.now = now;
        }

        int get(int what) {
            return now.ofDeed(deed, what);
        }
    }

    /** The KIND above all others: DEED. */
    private static class Plain {
        int worth(Asked asked) {
            asked.trace += 1;
            return asked.get(DAY);
        }
    }

    private static class Posed extends Plain {
        int worth(Asked asked) {
            asked.trace += 10;
            return super.worth(asked) + asked.told.heights[asked.get(WHO)];
        }
    }

    private static class Hidden extends Plain {
        int worth(Asked asked) {
            asked.trace += 100;
            return super.worth(asked) - asked.get(CELL) / COLUMNS;
        }
    }

    private static final class Lawful extends Posed {
        int worth(Asked asked) {
            asked.trace += 1000;
            return super.worth(asked) * 2;
        }
    }

    private static final class Clouded extends Hidden {
        int worth(Asked asked) {
            asked.trace += 10000;
            return super.worth(asked) + asked.told.clouds;
        }
    }

    private static final class Twice extends Plain {
        int worth(Asked asked) {
            asked.trace += 100000;
            return super.worth(asked) + asked.now.deedsOfAct(asked.get(ACT));
        }
    }
}
