import java.util.ArrayDeque;
import java.util.ArrayList;
import java.util.Arrays;
import java.util.List;

/**
 * The document's words again, in the plainest way and without a thought for room or time: hours go by one
 * by one, ways are walked, sets are lists. RandomRunsTest holds DriedMap against it.
 */
final class Plain {
    private static final int UNKNOWN = -1, OUTSIDE = -2, STATE = -3, FULL = -4, NONE = -9;
    private static final long LOST = Long.MIN_VALUE;

    private static final class World {
        int wide, high, sun;
        char[] letters = new char[0];
        int[] wets = new int[0];

        World twin() {
            World w = new World();
            w.wide = wide;
            w.high = high;
            w.sun = sun;
            w.letters = letters.clone();
            w.wets = wets.clone();
            return w;
        }

        int loses(int c) {
            return letters[c] == 'm' ? sun : letters[c] == 's' ? sun + 1 : sun / 2;
        }

        void hour() {
            for (int c = 0; c < wets.length; c++) {
                for (int k = loses(c); k > 0 && wets[c] > 0; k--) {
                    wets[c]--;
                }
            }
        }

        World behind(int hours) {
            World w = twin();
            for (int h = 0; h < hours; h++) {
                w.hour();
            }
            return w;
        }

        boolean[] cracked() {
            boolean[] is = new boolean[wets.length];
            for (int c = 0; c < wets.length; c++) {
                is[c] = wets[c] == 0;
            }
            return is;
        }

        /** Steps from a cell to each other one by cells of a set; -1: there is no way. */
        int[] walk(int from, boolean[] by) {
            int[] steps = new int[wets.length];
            Arrays.fill(steps, -1);
            if (!by[from]) {
                return steps;
            }
            ArrayDeque<Integer> next = new ArrayDeque<>();
            next.add(from);
            steps[from] = 0;
            while (!next.isEmpty()) {
                int c = next.remove();
                for (int d = 0; d < wets.length; d++) {
                    int apart = Math.abs(c % wide - d % wide) + Math.abs(c / wide - d / wide);
                    if (apart == 1 && by[d] && steps[d] < 0) {
                        steps[d] = steps[c] + 1;
                        next.add(d);
                    }
                }
            }
            return steps;
        }

        boolean open(boolean[] by) {
            for (int a = 0; a < wide; a++) {
                int[] steps = walk(a, by);
                for (int b = wide * (high - 1); b < wets.length; b++) {
                    if (steps[b] >= 0) {
                        return true;
                    }
                }
            }
            return false;
        }

        List<Integer> pieceOf(int c) {
            boolean[] wetOnes = cracked();
            for (int d = 0; d < wetOnes.length; d++) {
                wetOnes[d] = !wetOnes[d];
            }
            List<Integer> piece = new ArrayList<>();
            int[] steps = walk(c, wetOnes);
            for (int d = 0; d < steps.length; d++) {
                if (steps[d] >= 0) {
                    piece.add(d);
                }
            }
            return piece;
        }
    }

    private World now = new World();
    private int hour = 0, trace = 0, fault = 0;
    private final List<int[]> readings = new ArrayList<>();
    private final long[][] rows = new long[4][];
    private final int[] lanes = new int[4];

    private static int bits(boolean[] set) {
        int sum = 0;
        for (int c = 0; c < set.length; c++) {
            sum += set[c] ? 1 << c : 0;
        }
        return sum;
    }

    private boolean none(int c) {
        return c < 0 || c >= now.wets.length;
    }

    private boolean noBay() {
        return now.wets.length == 0;
    }

    private int flaw(int f) {
        fault = f;
        return -10 - f;
    }

    private static boolean badRange(long length, long i, long n) {
        return i < 0 || n < 0 || i > length || i + n > length;
    }

    int bay(int sheet, int lane, int i, int n) {
        fault = 0;
        if (sheet < 0 || sheet > 3) return UNKNOWN;
        if (lane < 0 || lane > 2) return OUTSIDE;
        if (rows[sheet] != null && lanes[sheet] != lane) return flaw(2);
        if (rows[sheet] == null) return flaw(1);
        if (n < 0) return flaw(4);
        if (badRange(rows[sheet].length, i, n)) return flaw(3);
        StringBuilder text = new StringBuilder();
        for (int k = i; k < i + n; k++) {
            long code = rows[sheet][k];
            text.append(code > 0 && code < 128 ? (char) code : '?');
        }
        String good = longestBeginning(text.toString());
        if (good.length() < n) return -100 - good.length();
        if (!good.matches(whole(good))) return -100 - n;
        now = new World();
        now.sun = good.charAt(1) - '0';
        now.wide = good.charAt(2) - '0';
        now.high = good.charAt(3) - '0';
        now.letters = new char[now.wide * now.high];
        now.wets = new int[now.wide * now.high];
        for (int c = 0; c < now.wets.length; c++) {
            now.letters[c] = good.charAt(4 + 2 * c);
            now.wets[c] = good.charAt(5 + 2 * c) - '0';
        }
        hour = 0;
        readings.clear();
        return now.wets.length;
    }

    private static String whole(String text) {
        if (text.length() < 4) return "b[0-9][2-4][23]x";
        return "b[0-9][2-4][23]([msc][0-9]){" + (text.charAt(2) - '0') * (text.charAt(3) - '0') + "}";
    }

    private static String longestBeginning(String text) {
        for (int k = text.length(); k > 0; k--) {
            String head = text.substring(0, k);
            for (String end : new String[] {"", "0", "22", "2", "022"}) {
                String tried = head + end;
                if (tried.matches("b[0-9][2-4][23]([msc][0-9])*")) {
                    int cells = (tried.length() - 4) / 2;
                    if (cells <= (tried.charAt(2) - '0') * (tried.charAt(3) - '0')) return head;
                }
            }
        }
        return "";
    }

    int ofCell(int c, int what) {
        if (none(c)) return UNKNOWN;
        if (what == 0) return "msc".indexOf(now.letters[c]);
        if (what == 1) return now.wets[c];
        if (what == 2) return now.loses(c);
        if (what == 3) return now.cracked()[c] ? 1 : 0;
        if (what == 4) return now.pieceOf(c).size();
        return OUTSIDE;
    }

    int shine(int v) {
        if (v < 0 || v > 9) return OUTSIDE;
        if (noBay()) return STATE;
        int was = now.sun;
        now.sun = v;
        return was;
    }

    int silt(int c, int kind) {
        if (none(c)) return UNKNOWN;
        if (kind < 0 || kind > 2) return OUTSIDE;
        int was = ofCell(c, 0);
        now.letters[c] = "msc".charAt(kind);
        return was;
    }

    int dry(int n) {
        if (n < 1 || n > 30) return OUTSIDE;
        if (noBay()) return STATE;
        int ahead = Integer.bitCount(bits(now.cracked()));
        now = now.behind(n);
        hour += n;
        return Integer.bitCount(bits(now.cracked())) - ahead;
    }

    int pour(int c, int v) {
        if (none(c)) return UNKNOWN;
        if (v < 1 || v > 9) return OUTSIDE;
        if (now.wets[c] == 0) return STATE;
        now.wets[c] = Math.min(9, now.wets[c] + v);
        return now.wets[c];
    }

    int cracks(int what) {
        if (what < 0 || what > 3) return OUTSIDE;
        if (noBay()) return STATE;
        if (what == 0) return bits(now.cracked());
        if (what == 1) return now.open(now.cracked()) ? 1 : 0;
        int pieces = 0, greatest = 0;
        for (int c = 0; c < now.wets.length; c++) {
            List<Integer> piece = now.pieceOf(c);
            greatest = Math.max(greatest, piece.size());
            // A piece is counted at its first cell.
            if (!piece.isEmpty() && piece.get(0) == c) pieces++;
        }
        return what == 2 ? pieces : greatest;
    }

    int way(int from, int to) {
        if (none(from) || none(to)) return UNKNOWN;
        int steps = now.walk(from, now.cracked())[to];
        return steps < 0 ? NONE : steps;
    }

    int plan(int sheet, int lane, int i, int n, int what) {
        fault = 0;
        if (sheet < 0 || sheet > 3) return UNKNOWN;
        if (lane < 0 || lane > 2 || n < 0 || n > 20 || what < 0 || what > 21 || what > 4 && what < 10) return OUTSIDE;
        if (rows[sheet] != null && lanes[sheet] != lane) return flaw(2);
        if (rows[sheet] == null) return flaw(1);
        if (badRange(rows[sheet].length, i, 2 * n)) return flaw(3);
        if (noBay()) return STATE;
        for (int k = i; k < i + 2 * n; k += 2) {
            long act = rows[sheet][k], v = rows[sheet][k + 1];
            if (act != 0 && act != 1 && act != 2) return OUTSIDE;
            if (act != 1 && (v < 0 || v > 9)) return OUTSIDE;
            if (act == 1 && (v < 0 || v >= now.wets.length)) return UNKNOWN;
        }
        World w = now.twin();
        int hours = 0, opened = w.open(w.cracked()) ? 0 : NONE;
        for (int k = i; k < i + 2 * n; k += 2) {
            int v = (int) rows[sheet][k + 1];
            if (rows[sheet][k] == 2) w.sun = v;
            if (rows[sheet][k] == 1) {
                if (w.wets[v] == 0) return what == 1 ? (k - i) / 2 : -100 - (k - i) / 2;
                w.wets[v] = Math.min(9, w.wets[v] + 3);
            }
            for (int h = 0; rows[sheet][k] == 0 && h < v; h++) {
                w.hour();
                hours++;
                if (opened == NONE && w.open(w.cracked())) opened = hours;
            }
        }
        if (what == 0) return bits(w.cracked());
        if (what == 1) return NONE;
        if (what == 2) return w.open(w.cracked()) ? 1 : 0;
        if (what == 3) return Arrays.stream(w.wets).sum();
        if (what == 4) return opened;
        return what - 10 < w.wets.length ? w.wets[what - 10] : NONE;
    }

    int when(int c) {
        if (none(c)) return UNKNOWN;
        for (int h = 0; h <= 20; h++) {
            if (now.behind(h).wets[c] == 0) return h;
        }
        return NONE;
    }

    int opens() {
        if (noBay()) return STATE;
        for (int h = 0; h <= 20; h++) {
            World w = now.behind(h);
            if (w.open(w.cracked())) return h;
        }
        return NONE;
    }

    int bars(int n) {
        if (n < 0 || n > 20) return OUTSIDE;
        if (noBay()) return STATE;
        World w = now.behind(n);
        for (int size = 0; size <= w.wets.length; size++) {
            for (int set = 0; set < 1 << w.wets.length; set++) {
                if (Integer.bitCount(set) != size) continue;
                boolean[] by = w.cracked();
                for (int c = 0; c < by.length; c++) {
                    by[c] = by[c] && (set >> c & 1) == 0;
                }
                if (!w.open(by)) return set;
            }
        }
        return NONE;
    }

    int dates(int set) {
        if (noBay()) return STATE;
        if (set < 0 || set >= 1 << now.wets.length) return OUTSIDE;
        boolean[] at = new boolean[21];
        for (int h = 0; h <= 20; h++) {
            at[h] = bits(now.behind(h).cracked()) == set;
        }
        return bits(at);
    }

    int reading(int c, int hours, int cracked) {
        if (none(c)) return UNKNOWN;
        if (hours < 0 || hours > 20 || cracked < 0 || cracked > 1) return OUTSIDE;
        if (readings.size() == 8) return FULL;
        readings.add(new int[] {c, hours, cracked});
        return readings.size() - 1;
    }

    int back(int k) {
        if (k < 0 || k > readings.size()) return OUTSIDE;
        for (int t = 0; t < k; t++) {
            readings.remove(readings.size() - 1);
        }
        return readings.size();
    }

    private boolean so(World w) {
        for (int[] r : readings) {
            if ((w.behind(r[1]).wets[r[0]] == 0) != (r[2] == 1)) return false;
        }
        return true;
    }

    int wets(int c) {
        if (none(c)) return UNKNOWN;
        boolean[] may = new boolean[10];
        for (int v = 0; v < 10; v++) {
            World w = now.twin();
            w.wets[c] = v;
            may[v] = so(w);
        }
        return bits(may);
    }

    int kinds(int c) {
        if (none(c)) return UNKNOWN;
        boolean[] may = new boolean[3];
        for (int v = 0; v < 3; v++) {
            World w = now.twin();
            w.letters[c] = "msc".charAt(v);
            may[v] = so(w);
        }
        return bits(may);
    }

    int suns() {
        if (noBay()) return STATE;
        boolean[] may = new boolean[10];
        for (int v = 0; v < 10; v++) {
            World w = now.twin();
            w.sun = v;
            may[v] = so(w);
        }
        return bits(may);
    }

    long odds(int which) {
        if (which != 0 && which != 1 || noBay()) return LOST;
        long open = 0, ways = 0;
        int must = bits(now.cracked());
        for (int set = 0; set < 1 << now.wets.length; set++) {
            if ((set & must) != must) continue;
            boolean[] by = new boolean[now.wets.length];
            for (int c = 0; c < by.length; c++) {
                by[c] = (set >> c & 1) == 1;
            }
            ways++;
            open += now.open(by) ? 1 : 0;
        }
        long a = open, b = ways;
        while (b != 0) {
            long r = a % b;
            a = b;
            b = r;
        }
        return which == 0 ? open / a : ways / a;
    }

    int sheet(int k, int lane, int n) {
        fault = 0;
        if (k < 0 || k > 3) return UNKNOWN;
        if (lane < 0 || lane > 2 || n > 60) return OUTSIDE;
        if (n < 0) return flaw(4);
        rows[k] = new long[n];
        lanes[k] = lane;
        return 1;
    }

    int lose(int k) {
        if (k < 0 || k > 3) return UNKNOWN;
        int had = rows[k] == null ? 0 : 1;
        rows[k] = null;
        return had;
    }

    int put(int k, int i, int v) {
        fault = 0;
        if (k < 0 || k > 3) return UNKNOWN;
        if (rows[k] == null) return flaw(1);
        if (i < 0 || i >= rows[k].length) return flaw(3);
        int width = 8 << lanes[k];
        long low = v & (1L << width) - 1;
        rows[k][i] = low >= 1L << width - 1 ? low - (1L << width) : low;
        return 1;
    }

    long cell(int k, int i, int lane) {
        fault = 0;
        if (k < 0 || k > 3 || lane < 0 || lane > 2) return LOST;
        if (rows[k] == null) fault = 1;
        else if (lanes[k] != lane) fault = 2;
        else if (i < 0 || i >= rows[k].length) fault = 3;
        else return rows[k][i];
        return LOST;
    }

    int copy(int k, int i, int other, int j, int n) {
        fault = 0;
        if (k < 0 || k > 3 || other < 0 || other > 3) return UNKNOWN;
        if (rows[k] == null || rows[other] == null) return flaw(1);
        if (lanes[k] != lanes[other]) return flaw(2);
        if (badRange(rows[k].length, i, n) || badRange(rows[other].length, j, n)) return flaw(3);
        long[] were = Arrays.copyOfRange(rows[k], i, i + n);
        for (int t = 0; t < n; t++) {
            rows[other][j + t] = were[t];
        }
        return n;
    }

    private void body(int... numbers) {
        for (int b : numbers) {
            trace = 31 * trace + b;
        }
    }

    int tell(int c) {
        if (none(c)) return UNKNOWN;
        int wet = now.wets[c];
        if (now.letters[c] == 'm') {
            body(1);
            return wet;
        }
        if (now.letters[c] == 's') {
            body(2, 1);
            return wet + 100;
        }
        body(3, 2, 1, 1);
        return wet + 100 + wet;
    }

    int draw(int c) {
        if (none(c)) return UNKNOWN;
        body(now.letters[c] == 'c' ? 5 : 4);
        return now.letters[c] == 'c' ? 80 : c;
    }

    int as(int c, int kind) {
        fault = 0;
        if (none(c)) return UNKNOWN;
        if (kind < 0 || kind > 2) return OUTSIDE;
        String isOne = now.letters[c] == 'm' ? "0" : now.letters[c] == 's' ? "01" : "012";
        return isOne.contains("" + kind) ? 1 : flaw(2);
    }

    int trace() {
        return trace;
    }

    int fault() {
        return fault;
    }

    int many(int what) {
        int[] all = {now.wide, now.high, now.sun, hour, Integer.bitCount(bits(now.cracked())), readings.size()};
        return what < 0 || what > 5 ? OUTSIDE : all[what];
    }
}
