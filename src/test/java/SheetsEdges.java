/** Edges of promises 21 to 25: sheet, lose, put, cell, copy. */
final class SheetsEdges {
    private static final int MIN = Integer.MIN_VALUE, MAX = Integer.MAX_VALUE;

    private final Edges e;

    SheetsEdges(Edges e) {
        this.e = e;
    }

    void all() {
        newRows();
        refusalsOfSheet();
        lose();
        put();
        cutToLane();
        refusalsOfPut();
        cell();
        refusalsOfCell();
        copy();
        copyOntoItself();
        refusalsOfCopy();
        faultsOfCopy();
    }

    private void newRows() {
        e.by(21, "A SHEET gets a new row: 1.", "or a row of 0 .. 60 numbers (0 at first)");
        for (int k = 0; k <= 3; k++) {
            for (int lane = 0; lane <= 2; lane++) {
                for (int n : new int[] {0, 1, 59, 60}) {
                    DriedMap x = States.noBay();
                    e.is(x, "sheet(" + k + ", " + lane + ", " + n + ")", x.sheet(k, lane, n), 1);
                    e.is("its last cell", x.cell(k, n - 1, lane), n == 0 ? Due.LOST : 0);
                    e.is("none behind it", x.cell(k, n, lane), Due.LOST);
                    e.is("fault() of that", x.fault(), 3);
                }
            }
        }
        DriedMap x = new DriedMap();
        x.sheet(0, 0, 60);
        for (int i = 0; i < 60; i++) {
            x.put(0, i, i + 1);
        }
        e.is(x, "a full row again", x.sheet(0, 0, 60), 1);
        for (int i = 0; i < 60; i++) {
            e.is("0 at first, cell " + i, x.cell(0, i, 0), 0);
        }
        x.put(0, 5, 9);
        x.sheet(0, 2, 3);
        e.is(x, "longer again", x.sheet(0, 1, 6), 1);
        e.is("nothing of an older row", x.cell(0, 5, 1), 0);
        e.is("of the new LANE alone", x.cell(0, 5, 0), Due.LOST);
        e.is("fault() of that", x.fault(), 2);
        e.is("other SHEETS stay", x.lose(1), 0);
    }

    private void refusalsOfSheet() {
        e.by(21, "row: 1. UNKNOWN;");
        for (int k : new int[] {-1, 4, MIN, MAX}) {
            e.refuses("UNKNOWN", "sheet(" + k + ", 0, 1)", States::small, x -> x.sheet(k, 0, 1));
            e.refuses("UNKNOWN", "sheet(" + k + ", 3, 61): ahead of OUTSIDE", States::small, x -> x.sheet(k, 3, 61));
            e.refuses("UNKNOWN", "sheet(" + k + ", 0, -1): ahead of SIZE", States::small, x -> x.sheet(k, 0, -1));
        }
        e.by(21, "OUTSIDE: lane, n above 60;");
        for (int lane : new int[] {-1, 3, MIN, MAX}) {
            e.refuses("OUTSIDE", "sheet(0, " + lane + ", 1)", States::small, x -> x.sheet(0, lane, 1));
            e.refuses("OUTSIDE", "sheet(0, " + lane + ", -1): ahead of SIZE", States::small, x -> x.sheet(0, lane, -1));
        }
        for (int n : new int[] {61, 62, 256, MAX}) {
            e.refuses("OUTSIDE", "sheet(0, 0, " + n + ")", States::small, x -> x.sheet(0, 0, n));
            e.refuses("OUTSIDE", "sheet(2, 2, " + n + ") of one that has nothing", States::small, x -> x.sheet(2, 2, n));
        }
        e.by(21, "n above 60; SIZE.");
        for (int n : new int[] {-1, -60, MIN}) {
            e.refuses("SIZE", "sheet(0, 0, " + n + ")", States::small, x -> x.sheet(0, 0, n));
            e.refuses("SIZE", "sheet(2, 2, " + n + ") of one that has nothing", States::small, x -> x.sheet(2, 2, n));
        }
    }

    private void lose() {
        e.by(22, "A SHEET has nothing: 1; 0: it had nothing.");
        for (int k = 0; k <= 3; k++) {
            DriedMap x = States.small();
            e.is("lose(" + k + ")", x.lose(k), k == 2 ? 0 : 1);
            e.is("lose(" + k + ") again", x.lose(k), 0);
            e.is("put(" + k + ", 0, 0)", x.put(k, 0, 0), Due.NULL);
            for (int other = 0; other <= 3; other++) {
                e.is("lose(" + other + ") of the others", x.lose(other), other == 2 || other == k ? 0 : 1);
            }
            e.is("the BAY stays", x.many(0), 2);
        }
        DriedMap x = new DriedMap();
        x.sheet(1, 1, 0);
        e.is("a row that is empty is not nothing", x.lose(1), 1);
        e.leaves("lose(2)", States::small, y -> y.lose(2), 0);
        e.by(22, "it had nothing. UNKNOWN.");
        for (int k : new int[] {-1, 4, MIN, MAX}) {
            e.refuses("UNKNOWN", "lose(" + k + ")", States::small, y -> y.lose(k));
        }
    }

    private void put() {
        e.by(23, "Cell i of a SHEET becomes v: 1.");
        DriedMap x = new DriedMap();
        x.sheet(3, 2, 60);
        e.is(x, "put(3, 0, 5)", x.put(3, 0, 5), 1);
        e.is(x, "put(3, 59, 6)", x.put(3, 59, 6), 1);
        e.is("the first", x.cell(3, 0, 2), 5);
        e.is("the second", x.cell(3, 1, 2), 0);
        e.is("the last but one", x.cell(3, 58, 2), 0);
        e.is("the last", x.cell(3, 59, 2), 6);
        e.is(x, "put(3, 0, 0)", x.put(3, 0, 0), 1);
        e.is("it is 0 again", x.cell(3, 0, 2), 0);
    }

    private void cutToLane() {
        e.by(23, "what comes to a cell of it is cut to its LANE.");
        int[][] of = {{0, 127, 127}, {0, 128, -128}, {0, -128, -128}, {0, -129, 127}, {0, 255, -1}, {0, 256, 0}, {0, -256, 0}, {0, MAX, -1},
            {0, MIN, 0}, {1, 32767, 32767}, {1, 32768, -32768}, {1, -32768, -32768}, {1, -32769, 32767}, {1, 65535, -1}, {1, 65536, 0},
            {1, 128, 128}, {1, MAX, -1}, {1, MIN, 0}, {2, 65536, 65536}, {2, 32768, 32768}, {2, MAX, MAX}, {2, MIN, MIN}, {2, -1, -1}};
        for (int[] o : of) {
            DriedMap x = new DriedMap();
            x.sheet(1, o[0], 2);
            e.is(x, "put of " + o[1] + " in lane " + o[0], x.put(1, 1, o[1]), 1);
            e.is("lane " + o[0] + " of " + o[1], x.cell(1, 1, o[0]), o[2]);
            e.is("beside it", x.cell(1, 0, o[0]), 0);
        }
    }

    private void refusalsOfPut() {
        e.by(23, "becomes v: 1. UNKNOWN; NULL; INDEX.");
        for (int k : new int[] {-1, 4, MIN, MAX}) {
            e.refuses("UNKNOWN", "put(" + k + ", 0, 0)", States::small, x -> x.put(k, 0, 0));
            e.refuses("UNKNOWN", "put(" + k + ", -1, 0)", States::small, x -> x.put(k, -1, 0));
        }
        for (int i : new int[] {0, -1, 60, MIN, MAX}) {
            e.refuses("NULL", "put(2, " + i + ", 0): ahead of INDEX", States::small, x -> x.put(2, i, 0));
        }
        for (int i : new int[] {-1, 3, 4, 59, 60, MIN, MAX}) {
            e.refuses("INDEX", "put(1, " + i + ", 9)", States::small, x -> x.put(1, i, 9));
        }
        e.refuses("INDEX", "put(0, 0, 9) of an empty row", () -> States.written(""), x -> x.put(0, 0, 9));
        e.refuses("INDEX", "put(0, 60, 9) of a full row", () -> States.written("b".repeat(60)), x -> x.put(0, 60, 9));
        e.refuses("INDEX", "put(0, -1, 9) of a full row", () -> States.written("b".repeat(60)), x -> x.put(0, -1, 9));
    }

    private void cell() {
        e.by(24, "Cell i of what a SHEET has, taken as a row of a LANE.");
        e.leaves("cell(1, 0, 1)", States::small, x -> x.cell(1, 0, 1), 7);
        e.leaves("cell(1, 2, 1)", States::small, x -> x.cell(1, 2, 1), 5);
        e.leaves("cell(1, 1, 1): below 0", States::small, x -> x.cell(1, 1, 1), -300);
        e.leaves("cell(3, 3, 2): below 0", States::small, x -> x.cell(3, 3, 2), -5);
        e.leaves("cell(0, 11, 0)", States::small, x -> x.cell(0, 11, 0), '2');
        e.leaves("the last of a full row", () -> States.written("b".repeat(60)), x -> x.cell(0, 59, 0), 'b');
    }

    private void refusalsOfCell() {
        e.by(24, "LOST: UNKNOWN, OUTSIDE: lane;");
        for (int k : new int[] {-1, 4, MIN, MAX}) {
            e.refuses("UNKNOWN", "cell(" + k + ", 0, 0)", States::small, x -> x.cell(k, 0, 0));
            e.refuses("UNKNOWN", "cell(" + k + ", -1, 3)", States::small, x -> x.cell(k, -1, 3));
        }
        for (int lane : new int[] {-1, 3, MIN, MAX}) {
            e.refuses("OUTSIDE", "cell(0, 0, " + lane + ")", States::small, x -> x.cell(0, 0, lane));
            e.refuses("OUTSIDE", "cell(2, 0, " + lane + "): ahead of NULL", States::small, x -> x.cell(2, 0, lane));
            e.refuses("OUTSIDE", "cell(0, -1, " + lane + "): ahead of INDEX", States::small, x -> x.cell(0, -1, lane));
        }
        e.by(24, "FAULTS CAST (nothing is no CAST), NULL, INDEX.");
        for (int[] of : new int[][] {{0, 1}, {0, 2}, {1, 0}, {1, 2}, {3, 0}, {3, 1}}) {
            for (int i : new int[] {0, -1, 60, MIN, MAX}) {
                String call = "cell(" + of[0] + ", " + i + ", " + of[1] + ")";
                e.refuses("CAST", call + ": ahead of INDEX", States::small, x -> x.cell(of[0], i, of[1]));
            }
        }
        for (int lane = 0; lane <= 2; lane++) {
            int as = lane;
            e.refuses("NULL", "cell(2, 0, " + as + ")", States::small, x -> x.cell(2, 0, as));
            e.refuses("NULL", "cell(2, -1, " + as + "): ahead of INDEX", States::small, x -> x.cell(2, -1, as));
        }
        for (int i : new int[] {-1, 3, 60, MIN, MAX}) {
            e.refuses("INDEX", "cell(1, " + i + ", 1)", States::small, x -> x.cell(1, i, 1));
        }
        e.refuses("INDEX", "cell(0, 0, 0) of an empty row", () -> States.written(""), x -> x.cell(0, 0, 0));
        e.refuses("INDEX", "cell(0, 60, 0) of a full row", () -> States.written("b".repeat(60)), x -> x.cell(0, 60, 0));
    }

    /** Sheets 0 and 1 have shorts (5 and 3 of them), 2 nothing, 3 ints. */
    private static DriedMap rows() {
        DriedMap x = States.small();
        return States.fill(x, 0, 1, 100, 101, -102, 103, 104);
    }

    private void copy() {
        e.by(25, "n cells of a SHEET from i on go to another one", "from j on, as they were: n.");
        DriedMap x = rows();
        e.is(x, "copy(0, 2, 1, 0, 3)", x.copy(0, 2, 1, 0, 3), 3);
        int[] want = {-102, 103, 104};
        for (int i = 0; i < 3; i++) {
            e.is("cell " + i, x.cell(1, i, 1), want[i]);
            e.is("the first SHEET's cell stays", x.cell(0, 2 + i, 1), want[i]);
        }
        e.is(x, "one, at its last", x.copy(0, 0, 1, 2, 1), 1);
        e.is("it went", x.cell(1, 2, 1), 100);
        e.is("not one beside it", x.cell(1, 1, 1), 103);
        int[][] none = {{0, 0}, {5, 3}, {5, 0}, {0, 3}};
        for (int[] of : none) {
            e.leaves("copy(0, " + of[0] + ", 1, " + of[1] + ", 0)", SheetsEdges::rows, y -> y.copy(0, of[0], 1, of[1], 0), 0);
        }
        e.leaves("none of an empty row", () -> States.written(""), y -> y.copy(0, 0, 0, 0, 0), 0);
        DriedMap full = new DriedMap();
        full.sheet(0, 2, 60);
        full.sheet(3, 2, 60);
        full.put(0, 0, MIN);
        full.put(0, 59, MAX);
        e.is(full, "all of a full row", full.copy(0, 0, 3, 0, 60), 60);
        e.is("the first", full.cell(3, 0, 2), MIN);
        e.is("the last", full.cell(3, 59, 2), MAX);
    }

    private void copyOntoItself() {
        e.by(25, "(perhaps the same)");
        for (int shift = -2; shift <= 2; shift++) {
            DriedMap x = new DriedMap();
            States.fill(x, 0, 0, 10, 11, 12, 13, 14, 15, 16, 17);
            e.is(x, "copy(0, 2, 0, " + (2 + shift) + ", 4)", x.copy(0, 2, 0, 2 + shift, 4), 4);
            for (int i = 0; i < 8; i++) {
                boolean went = i >= 2 + shift && i < 6 + shift;
                e.is("cell " + i + ", shift " + shift, x.cell(0, i, 0), went ? 10 + i - shift : 10 + i);
            }
        }
        e.leaves("onto itself, all of it", SheetsEdges::rows, x -> x.copy(0, 0, 0, 0, 5), 5);
    }

    private void refusalsOfCopy() {
        e.by(25, "as they were: n. UNKNOWN;");
        for (int k : new int[] {-1, 4, MIN, MAX}) {
            e.refuses("UNKNOWN", "copy(" + k + ", 0, 1, 0, 1)", SheetsEdges::rows, x -> x.copy(k, 0, 1, 0, 1));
            e.refuses("UNKNOWN", "copy(0, 0, " + k + ", 0, 1)", SheetsEdges::rows, x -> x.copy(0, 0, k, 0, 1));
            e.refuses("UNKNOWN", "copy(" + k + ", 0, 2, 0, 1): ahead of NULL", SheetsEdges::rows, x -> x.copy(k, 0, 2, 0, 1));
            e.refuses("UNKNOWN", "copy(2, 0, " + k + ", 0, 1): ahead of NULL", SheetsEdges::rows, x -> x.copy(2, 0, k, 0, 1));
            e.refuses("UNKNOWN", "copy(0, -1, " + k + ", 0, 1): ahead of INDEX", SheetsEdges::rows, x -> x.copy(0, -1, k, 0, 1));
        }
    }

    private void faultsOfCopy() {
        e.by(25, "FAULTS NULL (the first, the other), CAST (unlike LANES),");
        for (int n : new int[] {0, 1, -1, MAX}) {
            e.refuses("NULL", "copy(2, 0, 0, 0, " + n + ")", SheetsEdges::rows, x -> x.copy(2, 0, 0, 0, n));
            e.refuses("NULL", "copy(0, 0, 2, 0, " + n + ")", SheetsEdges::rows, x -> x.copy(0, 0, 2, 0, n));
            e.refuses("NULL", "copy(2, 0, 2, 0, " + n + ")", SheetsEdges::rows, x -> x.copy(2, 0, 2, 0, n));
            e.refuses("NULL", "copy(3, -1, 2, 9, " + n + "): ahead of INDEX", SheetsEdges::rows, x -> x.copy(3, -1, 2, 9, n));
            e.refuses("CAST", "copy(0, 0, 3, 0, " + n + ")", SheetsEdges::rows, x -> x.copy(0, 0, 3, 0, n));
            e.refuses("CAST", "copy(3, 0, 0, 0, " + n + ")", SheetsEdges::rows, x -> x.copy(3, 0, 0, 0, n));
            e.refuses("CAST", "copy(3, -1, 0, 9, " + n + "): ahead of INDEX", SheetsEdges::rows, x -> x.copy(3, -1, 0, 9, n));
        }
        e.by(25, "INDEX: i, j, n below 0 or beyond.");
        int[][] beyond = {{-1, 0, 0}, {0, -1, 0}, {0, 0, -1}, {-1, -1, -1}, {6, 0, 0}, {0, 4, 0}, {5, 0, 1}, {0, 3, 1}, {3, 0, 3}, {0, 1, 3},
            {0, 0, 4}, {0, 0, 6}, {-1, 1, 1}, {1, -1, 1}, {0, 0, MIN}, {0, 0, MAX}, {1, 1, MAX}, {5, 3, MAX}, {MAX, 0, 0}, {0, MAX, 0},
            {MAX, 0, 1}, {0, MAX, 1}, {MAX, MAX, MAX}, {MIN, 0, 0}, {0, MIN, 0}, {MIN, MIN, MIN}, {MIN, 0, MIN}, {2, 0, -1}, {1, 1, -1}};
        for (int[] of : beyond) {
            String call = "copy(0, " + of[0] + ", 1, " + of[1] + ", " + of[2] + ")";
            e.refuses("INDEX", call, SheetsEdges::rows, x -> x.copy(0, of[0], 1, of[1], of[2]));
        }
        e.refuses("INDEX", "copy(1, 0, 0, 0, 4): beyond the first alone", SheetsEdges::rows, x -> x.copy(1, 0, 0, 0, 4));
        e.refuses("INDEX", "copy(0, 1, 0, 2, 4): beyond the same one's end", SheetsEdges::rows, x -> x.copy(0, 1, 0, 2, 4));
    }
}
