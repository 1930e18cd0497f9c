/** A flat in cells that dries and cracks: ../shared/DOC.md says what each call answers and changes. */
public final class DriedMap {
    public static final int UNKNOWN = -1, OUTSIDE = -2, STATE = -3, FULL = -4, NONE = -9;
    public static final long LOST = Long.MIN_VALUE;

    private static final int NULL_FAULT = 1, CAST_FAULT = 2, INDEX_FAULT = 3, SIZE_FAULT = 4;
    private static final int MUD = 0, SAND = 1, CLAY = 2;
    private static final int HIGHEST_SUN = 9, HIGHEST_WET = 9, LAST_HOUR = 20, MOST_CELLS = 12;
    private static final int SHEETS = 4, LANES = 3, LONGEST_ROW = 60, NO_LANE = -1;
    /** Codes of a TEXT ahead of its CELLS: b, SUN, WIDE, LONG. */
    private static final int HEAD = 4;
    private static final int MOST_PAIRS = 20, MOST_PLAN_HOURS = 9, PLAN_POURS = 3, PLAN_WET_OF = 10;
    private static final int MOST_READINGS = 8;

    /** How all is now; it has no cells as long as there is no BAY. */
    private final Flat flat;
    /** What would be is tried on a flat of its own, so that nothing is changed. */
    private final Trial trial;
    private final Readings readings;
    private final Sheet[] sheets;
    private int hour;
    private int traced;
    private int latestFault;

    public DriedMap() {
        flat = new Flat();
        trial = new Trial();
        readings = new Readings();
        sheets = new Sheet[SHEETS];
        for (int k = 0; k < SHEETS; k++) {
            sheets[k] = new Sheet();
        }
        hour = 0;
        traced = 0;
        latestFault = 0;
    }

    // ---- 1 the bay

    public int bay(int sheet, int lane, int i, int n) {
        latestFault = 0;
        if (!isSheet(sheet)) {
            return UNKNOWN;
        }
        if (!isLane(lane)) {
            return OUTSIDE;
        }
        Sheet text = sheets[sheet];
        int found = text.faultAs(lane);
        if (found == 0 && n < 0) {
            found = SIZE_FAULT;
        }
        if (found == 0 && !text.has(i, n)) {
            found = INDEX_FAULT;
        }
        if (found != 0) {
            return faulted(found);
        }
        int place = firstFault(text, i, n);
        if (place != NONE) {
            return -100 - place;
        }
        flat.becomeText(text, i);
        hour = 0;
        readings.count = 0;
        return flat.cells;
    }

    public int ofCell(int c, int what) {
        if (!flat.isCell(c)) {
            return UNKNOWN;
        }
        switch (what) {
            case 0:
                return flat.kind[c];
            case 1:
                return flat.wet[c];
            case 2:
                return flat.losesOf(c);
            case 3:
                return flat.wet[c] == 0 ? 1 : 0;
            case 4:
                return Integer.bitCount(flat.hanging(1 << c, flat.wetSet()));
            default:
                return OUTSIDE;
        }
    }

    public int shine(int v) {
        if (!within(v, 0, HIGHEST_SUN)) {
            return OUTSIDE;
        }
        if (!flat.isThere()) {
            return STATE;
        }
        int was = flat.sun;
        flat.sun = v;
        return was;
    }

    public int silt(int c, int kind) {
        if (!flat.isCell(c)) {
            return UNKNOWN;
        }
        if (!within(kind, MUD, CLAY)) {
            return OUTSIDE;
        }
        int was = flat.kind[c];
        flat.kind[c] = kind;
        return was;
    }

    // ---- 2 hours, cracks

    public int dry(int n) {
        if (!within(n, 1, 30)) {
            return OUTSIDE;
        }
        if (!flat.isThere()) {
            return STATE;
        }
        int wetAhead = flat.wetSet();
        flat.passHours(n);
        hour += n;
        return Integer.bitCount(wetAhead & flat.crackedSet());
    }

    public int pour(int c, int v) {
        if (!flat.isCell(c)) {
            return UNKNOWN;
        }
        if (!within(v, 1, 9)) {
            return OUTSIDE;
        }
        if (!flat.pourOn(c, v)) {
            return STATE;
        }
        return flat.wet[c];
    }

    public int cracks(int what) {
        if (!within(what, 0, 3)) {
            return OUTSIDE;
        }
        if (!flat.isThere()) {
            return STATE;
        }
        switch (what) {
            case 0:
                return flat.crackedSet();
            case 1:
                return flat.isOpenBy(flat.crackedSet()) ? 1 : 0;
            case 2:
                return flat.howManyPieces();
            default:
                return flat.greatestPiece();
        }
    }

    public int way(int from, int to) {
        if (!flat.isCell(from) || !flat.isCell(to)) {
            return UNKNOWN;
        }
        return flat.fewestSteps(from, to);
    }

    public int plan(int sheet, int lane, int i, int n, int what) {
        latestFault = 0;
        if (!isSheet(sheet)) {
            return UNKNOWN;
        }
        boolean asked = within(what, 0, 4) || within(what, PLAN_WET_OF, PLAN_WET_OF + MOST_CELLS - 1);
        if (!isLane(lane) || !within(n, 0, MOST_PAIRS) || !asked) {
            return OUTSIDE;
        }
        Sheet pairs = sheets[sheet];
        int found = pairs.faultAs(lane);
        if (found == 0 && !pairs.has(i, 2 * n)) {
            found = INDEX_FAULT;
        }
        if (found != 0) {
            return faulted(found);
        }
        if (!flat.isThere()) {
            return STATE;
        }
        int refusal = refusalOfPairs(pairs, i, n);
        if (refusal != 0) {
            return refusal;
        }
        trial.follow(flat, pairs, i, n);
        return trial.answerTo(what);
    }

    // ---- 3 hours to come

    public int when(int c) {
        if (!flat.isCell(c)) {
            return UNKNOWN;
        }
        for (int h = 0; h <= LAST_HOUR; h++) {
            if (flat.isCrackedBehind(c, h)) {
                return h;
            }
        }
        return NONE;
    }

    public int opens() {
        if (!flat.isThere()) {
            return STATE;
        }
        for (int h = 0; h <= LAST_HOUR; h++) {
            if (flat.isOpenBy(flat.crackedSetBehind(h))) {
                return h;
            }
        }
        return NONE;
    }

    public int bars(int n) {
        if (!within(n, 0, LAST_HOUR)) {
            return OUTSIDE;
        }
        if (!flat.isThere()) {
            return STATE;
        }
        return flat.fewestBars(flat.crackedSetBehind(n));
    }

    public int dates(int set) {
        if (!flat.isThere()) {
            return STATE;
        }
        if (!within(set, 0, flat.all)) {
            return OUTSIDE;
        }
        int hours = 0;
        for (int h = 0; h <= LAST_HOUR; h++) {
            if (flat.crackedSetBehind(h) == set) {
                hours |= 1 << h;
            }
        }
        return hours;
    }

    // ---- 4 what was cracked

    public int reading(int c, int hours, int cracked) {
        if (!flat.isCell(c)) {
            return UNKNOWN;
        }
        if (!within(hours, 0, LAST_HOUR) || !within(cracked, 0, 1)) {
            return OUTSIDE;
        }
        return readings.addOne(c, hours, cracked);
    }

    public int back(int k) {
        if (!within(k, 0, readings.count)) {
            return OUTSIDE;
        }
        readings.count -= k;
        return readings.count;
    }

    public int wets(int c) {
        if (!flat.isCell(c)) {
            return UNKNOWN;
        }
        Flat other = trial.flat;
        other.becomeLike(flat);
        int set = 0;
        for (int w = 0; w <= HIGHEST_WET; w++) {
            other.wet[c] = w;
            if (readings.areSoIn(other)) {
                set |= 1 << w;
            }
        }
        return set;
    }

    public int kinds(int c) {
        if (!flat.isCell(c)) {
            return UNKNOWN;
        }
        Flat other = trial.flat;
        other.becomeLike(flat);
        int set = 0;
        for (int kind = MUD; kind <= CLAY; kind++) {
            other.kind[c] = kind;
            if (readings.areSoIn(other)) {
                set |= 1 << kind;
            }
        }
        return set;
    }

    public int suns() {
        if (!flat.isThere()) {
            return STATE;
        }
        Flat other = trial.flat;
        other.becomeLike(flat);
        int set = 0;
        for (int v = 0; v <= HIGHEST_SUN; v++) {
            other.sun = v;
            if (readings.areSoIn(other)) {
                set |= 1 << v;
            }
        }
        return set;
    }

    public long odds(int which) {
        if (!within(which, 0, 1) || !flat.isThere()) {
            return LOST;
        }
        int upper = flat.openWays();
        int lower = 1 << Integer.bitCount(flat.wetSet());
        // The lower number is a power of two, so nothing but two can be taken out of both.
        for (int k = 0; k < MOST_CELLS && lower > 1 && (upper & 1) == 0; k++) {
            upper >>= 1;
            lower >>= 1;
        }
        return which == 0 ? upper : lower;
    }

    // ---- 5 sheets, parts

    public int sheet(int k, int lane, int n) {
        latestFault = 0;
        if (!isSheet(k)) {
            return UNKNOWN;
        }
        if (!isLane(lane) || n > LONGEST_ROW) {
            return OUTSIDE;
        }
        if (n < 0) {
            return faulted(SIZE_FAULT);
        }
        sheets[k].becomeRow(lane, n);
        return 1;
    }

    public int lose(int k) {
        if (!isSheet(k)) {
            return UNKNOWN;
        }
        int had = sheets[k].isNothing() ? 0 : 1;
        sheets[k].becomeNothing();
        return had;
    }

    public int put(int k, int i, int v) {
        latestFault = 0;
        if (!isSheet(k)) {
            return UNKNOWN;
        }
        Sheet row = sheets[k];
        if (row.isNothing()) {
            return faulted(NULL_FAULT);
        }
        if (!row.hasPlace(i)) {
            return faulted(INDEX_FAULT);
        }
        row.setAt(i, v);
        return 1;
    }

    public long cell(int k, int i, int lane) {
        latestFault = 0;
        if (!isSheet(k) || !isLane(lane)) {
            return LOST;
        }
        Sheet row = sheets[k];
        latestFault = row.faultAs(lane);
        if (latestFault == 0 && !row.hasPlace(i)) {
            latestFault = INDEX_FAULT;
        }
        return latestFault == 0 ? row.codeAt(i) : LOST;
    }

    public int copy(int k, int i, int other, int j, int n) {
        latestFault = 0;
        if (!isSheet(k) || !isSheet(other)) {
            return UNKNOWN;
        }
        Sheet from = sheets[k];
        Sheet to = sheets[other];
        if (from.isNothing() || to.isNothing()) {
            return faulted(NULL_FAULT);
        }
        if (from.lane != to.lane) {
            return faulted(CAST_FAULT);
        }
        if (!from.has(i, n) || !to.has(j, n)) {
            return faulted(INDEX_FAULT);
        }
        // arraycopy takes the cells as they were, where a row goes onto itself too.
        System.arraycopy(from.row, i, to.row, j, n);
        return n;
    }

    public int tell(int c) {
        if (!flat.isCell(c)) {
            return UNKNOWN;
        }
        switch (flat.kind[c]) {
            case SAND:
                return tellingOfSand(c);
            case CLAY:
                return tellingOfClay(c);
            default:
                return tellingOfMud(c);
        }
    }

    public int draw(int c) {
        if (!flat.isCell(c)) {
            return UNKNOWN;
        }
        if (flat.kind[c] == CLAY) {
            leave(5);
            return 80;
        }
        leave(4);
        return c;
    }

    public int as(int c, int kind) {
        latestFault = 0;
        if (!flat.isCell(c)) {
            return UNKNOWN;
        }
        if (!within(kind, MUD, CLAY)) {
            return OUTSIDE;
        }
        // Each kind is one of all kinds with a lower number, too.
        if (flat.kind[c] < kind) {
            return faulted(CAST_FAULT);
        }
        return 1;
    }

    public int trace() {
        return traced;
    }

    public int fault() {
        return latestFault;
    }

    public int many(int what) {
        switch (what) {
            case 0:
                return flat.wide;
            case 1:
                return flat.rows;
            case 2:
                return flat.sun;
            case 3:
                return hour;
            case 4:
                return Integer.bitCount(flat.crackedSet());
            case 5:
                return readings.count;
            default:
                return OUTSIDE;
        }
    }

    // ---- what several calls need

    private static boolean within(int v, int least, int most) {
        return v >= least && v <= most;
    }

    private static boolean isSheet(int k) {
        return within(k, 0, SHEETS - 1);
    }

    private static boolean isLane(int lane) {
        return within(lane, 0, LANES - 1);
    }

    private int faulted(int found) {
        latestFault = found;
        return -10 - found;
    }

    private void leave(int body) {
        traced = 31 * traced + body;
    }

    private int tellingOfMud(int c) {
        leave(1);
        return flat.wet[c];
    }

    private int tellingOfSand(int c) {
        leave(2);
        return tellingOfMud(c) + 100;
    }

    private int tellingOfClay(int c) {
        leave(3);
        int bySand = tellingOfSand(c);
        return bySand + tellingOfMud(c);
    }

    /** The refusal of the first pair that is none; 0 if there is no such pair. */
    private int refusalOfPairs(Sheet pairs, int from, int n) {
        for (int p = 0; p < n; p++) {
            int act = pairs.codeAt(from + 2 * p);
            int number = pairs.codeAt(from + 2 * p + 1);
            if (!within(act, 0, 2)) {
                return OUTSIDE;
            }
            if (act == 0 && !within(number, 0, MOST_PLAN_HOURS)) {
                return OUTSIDE;
            }
            if (act == 2 && !within(number, 0, HIGHEST_SUN)) {
                return OUTSIDE;
            }
            if (act == 1 && !flat.isCell(number)) {
                return UNKNOWN;
            }
        }
        return 0;
    }

    // ---- reading a TEXT

    /** FIRST FAULT of the n codes from a place of a row on; NONE if they are a TEXT. */
    private static int firstFault(Sheet text, int from, int n) {
        for (int place = 0; place < n; place++) {
            if (!goesOn(text, from, place)) {
                return place;
            }
        }
        return n >= HEAD && n == lengthOfText(text, from) ? NONE : n;
    }

    /** Whether a TEXT can go on with the code at a place, those ahead of it being good. */
    private static boolean goesOn(Sheet text, int from, int place) {
        int code = text.codeAt(from + place);
        switch (place) {
            case 0:
                return code == 'b';
            case 1:
                return within(code, '0', '9');
            case 2:
                return within(code, '2', '4');
            case 3:
                return within(code, '2', '3');
            default:
                break;
        }
        if (place >= lengthOfText(text, from)) {
            return false;
        }
        return (place & 1) == 0 ? kindByLetter(code) != NONE : within(code, '0', '9');
    }

    /** How many codes a TEXT has whose head is good. */
    private static int lengthOfText(Sheet text, int from) {
        return HEAD + 2 * digitAt(text, from + 2) * digitAt(text, from + 3);
    }

    private static int digitAt(Sheet text, int i) {
        return text.codeAt(i) - '0';
    }

    private static int kindByLetter(int code) {
        switch (code) {
            case 'm':
                return MUD;
            case 's':
                return SAND;
            case 'c':
                return CLAY;
            default:
                return NONE;
        }
    }

    /** A SHEET: its row is made once and used again, whatever its LANE and length are. */
    private static final class Sheet {
        private final int[] row;
        private int lane;
        private int length;

        Sheet() {
            row = new int[LONGEST_ROW];
            lane = NO_LANE;
            length = 0;
        }

        boolean isNothing() {
            return lane == NO_LANE;
        }

        void becomeNothing() {
            lane = NO_LANE;
            length = 0;
        }

        void becomeRow(int newLane, int newLength) {
            lane = newLane;
            length = newLength;
            for (int i = 0; i < LONGEST_ROW; i++) {
                row[i] = 0;
            }
        }

        /** The FAULT with which it can't be taken as a row of a LANE; 0 if it can. */
        int faultAs(int wanted) {
            if (isNothing()) {
                return NULL_FAULT;
            }
            return lane == wanted ? 0 : CAST_FAULT;
        }

        boolean hasPlace(int i) {
            return i >= 0 && i < length;
        }

        /** Whether n cells from i on are there; i may be the place behind the last one, if n is 0. */
        boolean has(int i, int n) {
            return i >= 0 && i <= length && n >= 0 && n <= length - i;
        }

        int codeAt(int i) {
            return hasPlace(i) ? row[i] : 0;
        }

        void setAt(int i, int v) {
            if (hasPlace(i)) {
                row[i] = cutToLane(v);
            }
        }

        private int cutToLane(int v) {
            switch (lane) {
                case 0:
                    return (byte) v;
                case 1:
                    return (short) v;
                default:
                    return v;
            }
        }
    }

    /** READINGS: behind so many HOURS, from how all is when they are looked at, a CELL is CRACKED or not. */
    private static final class Readings {
        private final int[] cells;
        private final int[] hours;
        private final int[] cracked;
        private int count;

        Readings() {
            cells = new int[MOST_READINGS];
            hours = new int[MOST_READINGS];
            cracked = new int[MOST_READINGS];
            count = 0;
        }

        int addOne(int c, int behind, int isCracked) {
            if (count >= MOST_READINGS) {
                return FULL;
            }
            cells[count] = c;
            hours[count] = behind;
            cracked[count] = isCracked;
            count++;
            return count - 1;
        }

        boolean areSoIn(Flat flat) {
            for (int k = 0; k < count; k++) {
                boolean so = flat.isCrackedBehind(cells[k], hours[k]);
                if (so != (cracked[k] == 1)) {
                    return false;
                }
            }
            return true;
        }
    }

    /** A PLAN as it is followed on a flat of its own. */
    private static final class Trial {
        private final Flat flat;
        private int hours;
        /** Behind how many hours it is OPEN first; NONE: not yet. */
        private int opened;
        private int firstWrong;

        Trial() {
            flat = new Flat();
            hours = 0;
            opened = NONE;
            firstWrong = NONE;
        }

        /** Follows n pairs that are as told, up to the first act that can't be. */
        void follow(Flat start, Sheet pairs, int from, int n) {
            flat.becomeLike(start);
            hours = 0;
            opened = flat.isOpenBy(flat.crackedSet()) ? 0 : NONE;
            firstWrong = NONE;
            for (int p = 0; p < n && firstWrong == NONE; p++) {
                if (!canDo(pairs.codeAt(from + 2 * p), pairs.codeAt(from + 2 * p + 1))) {
                    firstWrong = p;
                }
            }
        }

        private boolean canDo(int act, int number) {
            if (act == 1) {
                return flat.pourOn(number, PLAN_POURS);
            }
            if (act == 2) {
                flat.sun = number;
            } else {
                goHours(number);
            }
            return true;
        }

        private void goHours(int n) {
            for (int h = 0; h < n; h++) {
                flat.passHours(1);
                hours++;
                if (opened == NONE && flat.isOpenBy(flat.crackedSet())) {
                    opened = hours;
                }
            }
        }

        int answerTo(int what) {
            if (what == 1) {
                return firstWrong;
            }
            if (firstWrong != NONE) {
                return -100 - firstWrong;
            }
            switch (what) {
                case 0:
                    return flat.crackedSet();
                case 2:
                    return flat.isOpenBy(flat.crackedSet()) ? 1 : 0;
                case 3:
                    return flat.wetOfAll();
                case 4:
                    return opened;
                default:
                    return flat.isCell(what - PLAN_WET_OF) ? flat.wet[what - PLAN_WET_OF] : NONE;
            }
        }
    }

    /** The cells, how wet they are, and the sun; sets of cells are held as bits. */
    private static final class Flat {
        private final int[] kind;
        private final int[] wet;
        private int wide;
        private int rows;
        private int cells;
        private int sun;
        private int all;
        private int firstColumn;
        private int lastColumn;

        Flat() {
            kind = new int[MOST_CELLS];
            wet = new int[MOST_CELLS];
            wide = 0;
            rows = 0;
            cells = 0;
            sun = 0;
            all = 0;
            firstColumn = 0;
            lastColumn = 0;
        }

        void becomeText(Sheet text, int from) {
            sun = digitAt(text, from + 1);
            setShape(digitAt(text, from + 2), digitAt(text, from + 3));
            for (int c = 0; c < cells; c++) {
                kind[c] = kindByLetter(text.codeAt(from + HEAD + 2 * c));
                wet[c] = digitAt(text, from + HEAD + 2 * c + 1);
            }
        }

        private void setShape(int newWide, int newRows) {
            wide = newWide;
            rows = newRows;
            cells = Math.min(newWide * newRows, MOST_CELLS);
            all = (1 << cells) - 1;
            firstColumn = 0;
            for (int y = 0; y < rows; y++) {
                firstColumn |= 1 << (y * wide);
            }
            lastColumn = firstColumn << (wide - 1);
        }

        void becomeLike(Flat other) {
            wide = other.wide;
            rows = other.rows;
            cells = other.cells;
            sun = other.sun;
            all = other.all;
            firstColumn = other.firstColumn;
            lastColumn = other.lastColumn;
            for (int c = 0; c < cells; c++) {
                kind[c] = other.kind[c];
                wet[c] = other.wet[c];
            }
        }

        boolean isThere() {
            return cells > 0;
        }

        boolean isCell(int c) {
            return c >= 0 && c < cells;
        }

        int losesOf(int c) {
            switch (kind[c]) {
                case SAND:
                    return sun + 1;
                case CLAY:
                    return sun / 2;
                default:
                    return sun;
            }
        }

        void passHours(int n) {
            for (int c = 0; c < cells; c++) {
                wet[c] = Math.max(0, wet[c] - n * losesOf(c));
            }
        }

        /** False if it can't be poured on, for it is CRACKED. */
        boolean pourOn(int c, int v) {
            if (!isCell(c) || wet[c] == 0) {
                return false;
            }
            wet[c] = Math.min(HIGHEST_WET, wet[c] + v);
            return true;
        }

        int wetOfAll() {
            int sum = 0;
            for (int c = 0; c < cells; c++) {
                sum += wet[c];
            }
            return sum;
        }

        /** Hours to come, nothing else being done: WET never gets more, so the hours need not go by. */
        boolean isCrackedBehind(int c, int hours) {
            return isCell(c) && wet[c] <= hours * losesOf(c);
        }

        int crackedSetBehind(int hours) {
            int set = 0;
            for (int c = 0; c < cells; c++) {
                if (isCrackedBehind(c, hours)) {
                    set |= 1 << c;
                }
            }
            return set;
        }

        int crackedSet() {
            int set = 0;
            for (int c = 0; c < cells; c++) {
                if (wet[c] == 0) {
                    set |= 1 << c;
                }
            }
            return set;
        }

        int wetSet() {
            return all & ~crackedSet();
        }

        private int beside(int set) {
            int columns = ((set & ~lastColumn) << 1) | ((set & ~firstColumn) >> 1);
            int aboveAndBelow = (set << wide) | (set >> wide);
            return (columns | aboveAndBelow) & all;
        }

        /** Those of a set that hang together with the seeds that are in it. */
        int hanging(int seeds, int among) {
            int reached = seeds & among;
            for (int step = 0; step < cells; step++) {
                int next = (reached | beside(reached)) & among;
                if (next == reached) {
                    break;
                }
                reached = next;
            }
            return reached;
        }

        /** Whether the BAY is OPEN, if just these cells are CRACKED. */
        boolean isOpenBy(int cracked) {
            int topRow = (1 << wide) - 1;
            int lastRow = topRow << (cells - wide);
            return (hanging(topRow, cracked) & lastRow) != 0;
        }

        int fewestSteps(int from, int to) {
            int cracked = crackedSet();
            int reached = (1 << from) & cracked;
            for (int steps = 0; steps < cells; steps++) {
                if ((reached & (1 << to)) != 0) {
                    return steps;
                }
                reached = (reached | beside(reached)) & cracked;
            }
            return NONE;
        }

        int howManyPieces() {
            int left = wetSet();
            int pieces = 0;
            for (int c = 0; c < cells && left != 0; c++) {
                left &= ~hanging(Integer.lowestOneBit(left), left);
                pieces++;
            }
            return pieces;
        }

        int greatestPiece() {
            int left = wetSet();
            int most = 0;
            for (int c = 0; c < cells && left != 0; c++) {
                int piece = hanging(Integer.lowestOneBit(left), left);
                most = Math.max(most, Integer.bitCount(piece));
                left &= ~piece;
            }
            return most;
        }

        /** The fewest of the cracked cells without which it is not OPEN; of several sets the least. */
        int fewestBars(int cracked) {
            int best = 0;
            int fewest = MOST_CELLS + 1;
            // Sets are gone through from the least on, so a later one must have fewer cells to be better.
            for (int set = 0; set <= all; set++) {
                boolean better = (set & ~cracked) == 0 && Integer.bitCount(set) < fewest;
                if (better && !isOpenBy(cracked & ~set)) {
                    best = set;
                    fewest = Integer.bitCount(set);
                }
            }
            return best;
        }

        /** In how many of all ways in which wet cells crack or do not it is OPEN. */
        int openWays() {
            int cracked = crackedSet();
            int wetOnes = wetSet();
            int open = 0;
            int more = wetOnes;
            for (int ways = 1 << Integer.bitCount(wetOnes); ways > 0; ways--) {
                if (isOpenBy(cracked | more)) {
                    open++;
                }
                // The next lower set within wetOnes, so that each one comes once.
                more = (more - 1) & wetOnes;
            }
            return open;
        }
    }
}
