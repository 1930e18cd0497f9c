/** Promises 21 to 31: sheet, lose, put, cell, copy, tell, draw, as, trace, fault, many; and the constants. */
public final class SheetsTest {
    private static final Due due = new Due();

    public static void main(String[] args) {
        constants();
        sheet();
        lose();
        put();
        cell();
        copy();
        copyOntoItself();
        tell();
        draw();
        as();
        trace();
        fault();
        many();
        due.end();
    }

    private static void constants() {
        due.is("UNKNOWN", DriedMap.UNKNOWN, -1);
        due.is("OUTSIDE", DriedMap.OUTSIDE, -2);
        due.is("STATE", DriedMap.STATE, -3);
        due.is("FULL", DriedMap.FULL, -4);
        due.is("NONE", DriedMap.NONE, -9);
        due.is("LOST", DriedMap.LOST, Long.MIN_VALUE);
    }

    private static void sheet() {
        DriedMap x = new DriedMap();
        due.fault(x, "sheet(4, 9, -1)", x.sheet(4, 9, -1), Due.UNKNOWN);
        due.fault(x, "sheet(-1, 0, 0)", x.sheet(-1, 0, 0), Due.UNKNOWN);
        due.fault(x, "sheet(0, 3, -1)", x.sheet(0, 3, -1), Due.OUTSIDE);
        due.fault(x, "sheet(0, -1, 1)", x.sheet(0, -1, 1), Due.OUTSIDE);
        due.fault(x, "sheet(0, 0, 61)", x.sheet(0, 0, 61), Due.OUTSIDE);
        due.fault(x, "sheet(0, 0, -1)", x.sheet(0, 0, -1), Due.SIZE);
        due.is("it has nothing by now", x.lose(0), 0);
        due.fault(x, "sheet(0, 0, 60)", x.sheet(0, 0, 60), 1);
        due.fault(x, "sheet(3, 2, 0)", x.sheet(3, 2, 0), 1);
        due.is("the last", x.cell(0, 59, 0), 0);
        due.is("beyond", x.cell(0, 60, 0), Due.LOST);
        x.put(0, 4, 7);
        due.fault(x, "sheet(0, 0, least)", x.sheet(0, 0, Integer.MIN_VALUE), Due.SIZE);
        due.is("it stays", x.cell(0, 4, 0), 7);
        due.fault(x, "a new row", x.sheet(0, 1, 5), 1);
        due.is("0 at first", x.cell(0, 4, 1), 0);
        x.put(0, 0, 7);
        x.put(0, 4, 7);
        x.sheet(0, 1, 2);
        x.sheet(0, 1, 60);
        due.is("0 at first, again", x.cell(0, 4, 1), 0);
        due.is("0 at first, again", x.cell(0, 0, 1), 0);
    }

    private static void lose() {
        DriedMap x = new DriedMap();
        x.sheet(2, 0, 0);
        due.is("lose(2)", x.lose(2), 1);
        due.is("lose(2)", x.lose(2), 0);
        due.is("lose(4)", x.lose(4), Due.UNKNOWN);
        due.is("lose(-1)", x.lose(-1), Due.UNKNOWN);
        due.fault(x, "put(2, 0, 0)", x.put(2, 0, 0), Due.NULL);
        x.lose(2);
        x.lose(4);
        due.is("lose names no fault", x.fault(), 1);
    }

    private static void put() {
        DriedMap x = new DriedMap();
        due.fault(x, "put(4, 0, 0)", x.put(4, 0, 0), Due.UNKNOWN);
        due.fault(x, "put(-1, 0, 0)", x.put(-1, 0, 0), Due.UNKNOWN);
        due.fault(x, "put(0, -1, 0)", x.put(0, -1, 0), Due.NULL);
        int[] numbers = {0, 127, 128, 255, 256, -129, 32767, 32768, 65536, -32769, Integer.MAX_VALUE, Integer.MIN_VALUE};
        for (int lane = 0; lane <= 2; lane++) {
            x.sheet(1, lane, 3);
            due.fault(x, "put(1, -1, 0)", x.put(1, -1, 0), Due.INDEX);
            due.fault(x, "put(1, 3, 0)", x.put(1, 3, 0), Due.INDEX);
            for (int v : numbers) {
                due.fault(x, "put(1, 2, " + v + ")", x.put(1, 2, v), 1);
                long cut = lane == 0 ? (byte) v : lane == 1 ? (short) v : v;
                due.is("lane " + lane + " of " + v, x.cell(1, 2, lane), cut);
                due.is("its neighbour", x.cell(1, 1, lane), 0);
            }
        }
    }

    private static void cell() {
        DriedMap x = new DriedMap();
        x.sheet(1, 1, 2);
        x.put(1, 1, -300);
        lost(x, "UNKNOWN", x.cell(4, 0, 0), 0);
        lost(x, "UNKNOWN", x.cell(-1, 0, 0), 0);
        lost(x, "OUTSIDE", x.cell(0, 0, 3), 0);
        lost(x, "OUTSIDE", x.cell(1, 0, -1), 0);
        lost(x, "nothing is no CAST", x.cell(0, 0, 2), 1);
        lost(x, "CAST ahead of INDEX", x.cell(1, 9, 0), 2);
        lost(x, "INDEX", x.cell(1, 2, 1), 3);
        lost(x, "INDEX", x.cell(1, -1, 1), 3);
        due.is("cell(1, 1, 1)", x.cell(1, 1, 1), -300);
        due.is("no fault", x.fault(), 0);
    }

    private static void lost(DriedMap x, String call, long got, int fault) {
        due.is(call, got, Due.LOST);
        due.is("fault() of " + call, x.fault(), fault);
    }

    private static void copy() {
        DriedMap x = new DriedMap();
        x.sheet(1, 1, 3);
        due.fault(x, "no sheet", x.copy(4, 0, 0, 0, -1), Due.UNKNOWN);
        due.fault(x, "no other sheet", x.copy(0, 0, 4, 0, -1), Due.UNKNOWN);
        due.fault(x, "no sheet -1", x.copy(-1, 0, 1, 0, 0), Due.UNKNOWN);
        due.fault(x, "no other sheet -1", x.copy(1, 0, -1, 0, 0), Due.UNKNOWN);
        due.fault(x, "the first is nothing", x.copy(0, -1, 1, 0, 0), Due.NULL);
        due.fault(x, "the other is nothing", x.copy(1, -1, 0, 0, 0), Due.NULL);
        x.sheet(0, 0, 5);
        due.fault(x, "unlike lanes", x.copy(0, -1, 1, 0, 0), Due.CAST);
        x.sheet(0, 1, 5);
        int[][] bad = {{-1, 0, 0}, {0, -1, 0}, {0, 0, -1}, {3, 0, 3}, {0, 1, 3}, {6, 0, 0}, {0, 4, 0}, {0, 0, 4},
            {1, 1, Integer.MAX_VALUE}, {Integer.MAX_VALUE, 0, 1}, {0, Integer.MIN_VALUE, 1}, {-2, 1, 1}};
        for (int[] b : bad) {
            due.fault(x, "copy of " + b[0] + " " + b[1] + " " + b[2], x.copy(0, b[0], 1, b[1], b[2]), Due.INDEX);
        }
        due.fault(x, "none", x.copy(0, 5, 1, 3, 0), 0);
        for (int i = 0; i < 5; i++) {
            x.put(0, i, 1000 + i);
        }
        due.fault(x, "two", x.copy(0, 3, 1, 1, 2), 2);
        due.is("ahead", x.cell(1, 0, 1), 0);
        due.is("first", x.cell(1, 1, 1), 1003);
        due.is("second", x.cell(1, 2, 1), 1004);
        due.is("the source stays", x.cell(0, 3, 1), 1003);
    }

    private static void copyOntoItself() {
        for (int shift = -2; shift <= 2; shift++) {
            DriedMap x = new DriedMap();
            x.sheet(0, 2, 8);
            for (int i = 0; i < 8; i++) {
                x.put(0, i, 10 + i);
            }
            due.fault(x, "shift " + shift, x.copy(0, 2, 0, 2 + shift, 4), 4);
            for (int i = 0; i < 8; i++) {
                boolean moved = i >= 2 + shift && i < 6 + shift;
                due.is("cell " + i + ", shift " + shift, x.cell(0, i, 2), moved ? 10 + i - shift : 10 + i);
            }
        }
    }

    private static void tell() {
        DriedMap x = new DriedMap();
        due.is("tell(0), no bay", x.tell(0), Due.UNKNOWN);
        Due.take(x, "b222m4s6c2m0");
        told(x, "mud", x.tell(0), 4, 1);
        x = Due.bayOf("b222m4s6c2m0");
        told(x, "sand", x.tell(1), 106, 31 * 2 + 1);
        x = Due.bayOf("b222m4s6c2m0");
        told(x, "clay", x.tell(2), 104, 31 * (31 * (31 * 3 + 2) + 1) + 1);
        x = Due.bayOf("b222m4s6c2m0");
        told(x, "cracked", x.tell(3), 0, 1);
        told(x, "tell(4)", x.tell(4), Due.UNKNOWN, 1);
        told(x, "tell(-1)", x.tell(-1), Due.UNKNOWN, 1);
        x.silt(3, 1);
        told(x, "as it is silted", x.tell(3), 100, 31 * (31 + 2) + 1);
    }

    private static void told(DriedMap x, String call, long got, long want, long trace) {
        due.is(call, got, want);
        due.is("trace() behind " + call, x.trace(), trace);
    }

    private static void draw() {
        DriedMap x = new DriedMap();
        due.is("draw(0), no bay", x.draw(0), Due.UNKNOWN);
        Due.take(x, "b222m4s6c2m0");
        told(x, "mud", x.draw(3), 3, 4);
        x = Due.bayOf("b222m4s6c2m0");
        told(x, "sand", x.draw(1), 1, 4);
        told(x, "clay", x.draw(2), 80, 31 * 4 + 5);
        told(x, "draw(4)", x.draw(4), Due.UNKNOWN, 31 * 4 + 5);
        told(x, "draw(-1)", x.draw(-1), Due.UNKNOWN, 31 * 4 + 5);
    }

    private static void as() {
        DriedMap x = new DriedMap();
        due.fault(x, "as(0, 9), no bay", x.as(0, 9), Due.UNKNOWN);
        Due.take(x, "b222m4s6c2m0");
        for (int c = 0; c <= 2; c++) {
            for (int kind = 0; kind <= 2; kind++) {
                due.fault(x, "as(" + c + ", " + kind + ")", x.as(c, kind), kind <= c ? 1 : Due.CAST);
            }
            due.fault(x, "kind 3", x.as(c, 3), Due.OUTSIDE);
            due.fault(x, "kind -1", x.as(c, -1), Due.OUTSIDE);
        }
        due.fault(x, "as(4, 3)", x.as(4, 3), Due.UNKNOWN);
        due.fault(x, "as(-1, 0)", x.as(-1, 0), Due.UNKNOWN);
    }

    private static void trace() {
        DriedMap x = Due.bayOf("b222m4s6c2m0");
        int want = 0;
        for (int k = 0; k < 40; k++) {
            x.tell(2);
            want = 31 * (31 * (31 * (31 * want + 3) + 2) + 1) + 1;
            due.is("it wraps", x.trace(), want);
        }
        due.is("it is not changed by asking", x.trace(), want);
    }

    /** Calls that name no FAULT leave what fault() tells; each that names one tells its own. */
    private static void fault() {
        DriedMap x = Due.bayOf("b222m4s6c2m0");
        x.put(3, 0, 0);
        x.ofCell(9, 9);
        x.shine(3);
        x.silt(0, 9);
        x.dry(1);
        x.pour(0, 1);
        x.cracks(9);
        x.way(0, 0);
        x.when(0);
        x.opens();
        x.bars(2);
        x.dates(-1);
        x.reading(0, 0, 9);
        x.back(0);
        x.wets(0);
        x.kinds(0);
        x.suns();
        x.odds(9);
        x.lose(0);
        x.tell(0);
        x.draw(9);
        x.trace();
        x.many(9);
        due.is("the latest that names one", x.fault(), 1);
        due.is("asked again", x.fault(), 1);
        x.put(9, 0, 0);
        due.is("refused", x.fault(), 0);
    }

    private static void many() {
        DriedMap x = new DriedMap();
        due.is("many(6)", x.many(6), Due.OUTSIDE);
        due.is("many(-1)", x.many(-1), Due.OUTSIDE);
        Due.take(x, "b243m1m2m3m4m5m6m7m8m9m0m1m2");
        x.dry(1);
        x.reading(0, 0, 1);
        x.reading(0, 0, 0);
        int[] want = {4, 3, 2, 1, 5, 2};
        for (int what = 0; what <= 5; what++) {
            due.is("many(" + what + ")", x.many(what), want[what]);
        }
    }
}
