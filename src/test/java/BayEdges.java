/** Edges of promises 1 to 5: a new object, bay, ofCell, shine, silt. */
final class BayEdges {
    private static final int MIN = Integer.MIN_VALUE, MAX = Integer.MAX_VALUE;
    private static final String LONGEST = "b943m0s1c2m3s4c5m6s7c8m9s0c1", SHORTEST = "b022m0s9c5m1";

    private final Edges e;

    BayEdges(Edges e) {
        this.e = e;
    }

    void all() {
        newObject();
        refusalsOfBay();
        faultsOfBay();
        cellsThatAreThere();
        textsThatAreTaken();
        codesBesideGoodOnes();
        textsThatEndTooSoon();
        textsThatGoOnTooLong();
        codesAreCutToTheirLane();
        numbersOfCells();
        shapesBehindEachOther();
        allIsMadeAnew();
        refusalsOfOfCell();
        answersOfOfCell();
        whatCellsLose();
        piecesOfCells();
        shine();
        silt();
    }

    private void newObject() {
        e.by(1, "No BAY (no CELLS), SHEETS have nothing.", "have nothing (at first)");
        DriedMap x = new DriedMap();
        for (int what = 0; what <= 5; what++) {
            e.is("many(" + what + ")", x.many(what), 0);
        }
        for (int c : new int[] {0, 1, 3, 11}) {
            e.is("ofCell(" + c + ", 0)", x.ofCell(c, 0), Due.UNKNOWN);
        }
        e.is("fault() of a new object", x.fault(), 0);
        e.is("trace() of a new object", x.trace(), 0);
        e.is("back(0)", x.back(0), 0);
        e.is("back(1)", x.back(1), Due.OUTSIDE);
        for (int k = 0; k <= 3; k++) {
            e.is("put(" + k + ", 0, 0)", x.put(k, 0, 0), Due.NULL);
            e.is("lose(" + k + ")", x.lose(k), 0);
            for (int lane = 0; lane <= 2; lane++) {
                e.is("cell(" + k + ", 0, " + lane + ")", x.cell(k, 0, lane), Due.LOST);
                e.is("fault() of that", x.fault(), 1);
            }
        }
        DriedMap y = States.small();
        e.is("many(0) of one beside it", y.many(0), 2);
        e.is("many(0) still", x.many(0), 0);
        e.is("lose(0) still", x.lose(0), 0);
    }

    private void refusalsOfBay() {
        e.by(2, "the FIRST FAULT. UNKNOWN;", "(there is no such CELL, SHEET, place of a row)", "SHEETS 0 .. 3");
        for (int sheet : new int[] {-1, 4, MIN, MAX}) {
            e.refuses("UNKNOWN", "bay(" + sheet + ", 0, 0, 12)", States::small, x -> x.bay(sheet, 0, 0, 12));
        }
        e.refuses("UNKNOWN", "bay(4, 3, -1, -1): ahead of all others", States::small, x -> x.bay(4, 3, -1, -1));
        e.by(2, "OUTSIDE: lane; FAULTS");
        for (int lane : new int[] {-1, 3, MIN, MAX}) {
            e.refuses("OUTSIDE", "bay(0, " + lane + ", 0, 12)", States::small, x -> x.bay(0, lane, 0, 12));
            e.refuses("OUTSIDE", "bay(2, " + lane + ", 0, 0): ahead of NULL", States::small, x -> x.bay(2, lane, 0, 0));
            e.refuses("OUTSIDE", "bay(0, " + lane + ", -1, -1): ahead of SIZE, INDEX", States::small, x -> x.bay(0, lane, -1, -1));
        }
    }

    private void faultsOfBay() {
        e.by(2, "CAST (nothing is no CAST),", "2 CAST (it is of another lane, kind)", "in the order told; it answers -10 less it");
        for (int[] of : new int[][] {{0, 1}, {0, 2}, {1, 0}, {1, 2}, {3, 0}, {3, 1}}) {
            String head = "bay(" + of[0] + ", " + of[1];
            e.refuses("CAST", head + ", 0, 3)", States::small, x -> x.bay(of[0], of[1], 0, 3));
            e.refuses("CAST", head + ", 0, 0): none taken", States::small, x -> x.bay(of[0], of[1], 0, 0));
            e.refuses("CAST", head + ", -1, -1): ahead of SIZE, INDEX", States::small, x -> x.bay(of[0], of[1], -1, -1));
        }
        e.by(2, "CAST), NULL,", "1 NULL (there is nothing)");
        for (int lane = 0; lane <= 2; lane++) {
            int as = lane;
            e.refuses("NULL", "bay(2, " + as + ", 0, 0)", States::small, x -> x.bay(2, as, 0, 0));
            e.refuses("NULL", "bay(2, " + as + ", -1, -1): ahead of SIZE, INDEX", States::small, x -> x.bay(2, as, -1, -1));
            e.refuses("NULL", "bay(0, " + as + ", 0, 0) without a BAY", States::noBay, x -> x.bay(0, as, 0, 0));
        }
        e.by(2, "SIZE: n is below 0,", "4 SIZE (a length below 0).");
        for (int n : new int[] {-1, -12, MIN}) {
            e.refuses("SIZE", "bay(0, 0, 0, " + n + ")", States::small, x -> x.bay(0, 0, 0, n));
            e.refuses("SIZE", "bay(0, 0, -1, " + n + "): ahead of INDEX", States::small, x -> x.bay(0, 0, -1, n));
            e.refuses("SIZE", "bay(0, 0, 13, " + n + "): ahead of INDEX", States::small, x -> x.bay(0, 0, 13, n));
        }
        e.by(2, "INDEX: not all cells are there;", "3 INDEX (of cells from i on also where i is not 0 .. how many there are, if none of them is taken, too)");
        int[][] beyond = {{-1, 0}, {-1, 1}, {-1, 12}, {13, 0}, {12, 1}, {1, 12}, {0, 13}, {MIN, 0}, {MIN, 12}, {MIN, MAX}, {MAX, 0},
            {MAX, 1}, {MAX, MAX}, {1, MAX}, {0, MAX}, {12, MAX}};
        for (int[] of : beyond) {
            e.refuses("INDEX", "bay(0, 0, " + of[0] + ", " + of[1] + ")", States::small, x -> x.bay(0, 0, of[0], of[1]));
        }
        e.refuses("INDEX", "bay(0, 0, 4, 12): ahead of a code that is bad", States::small, x -> x.bay(0, 0, 4, 12));
    }

    private void cellsThatAreThere() {
        e.by(2, "of n cells of a SHEET from i on,", "INDEX: not all cells are there; -100 less it.");
        e.leaves("bay(0, 0, 12, 0): the place behind the last", States::small, x -> x.bay(0, 0, 12, 0), -100);
        e.leaves("bay(0, 0, 0, 0)", States::small, x -> x.bay(0, 0, 0, 0), -100);
        e.leaves("a row that is empty", () -> States.written(""), x -> x.bay(0, 0, 0, 0), -100);
        e.refuses("INDEX", "bay(0, 0, 1, 0) of an empty row", () -> States.written(""), x -> x.bay(0, 0, 1, 0));
        e.refuses("INDEX", "bay(0, 0, 0, 1) of an empty row", () -> States.written(""), x -> x.bay(0, 0, 0, 1));
        DriedMap x = States.written(" ".repeat(32) + LONGEST);
        e.refuses("INDEX", "one beyond a full row", () -> States.written(" ".repeat(32) + LONGEST), y -> y.bay(0, 0, 33, 28));
        e.is(x, "the last 28 of 60", x.bay(0, 0, 32, 28), 12);
        DriedMap y = States.written("z" + SHORTEST + "z");
        e.is(y, "one too few", y.bay(0, 0, 1, 11), -111);
        e.is(y, "one too many", y.bay(0, 0, 1, 13), -112);
        e.is(y, "one too soon", y.bay(0, 0, 0, 12), -100);
        e.is(y, "one too late", y.bay(0, 0, 2, 12), -100);
        e.is(y, "just these", y.bay(0, 0, 1, 12), 4);
    }

    private void textsThatAreTaken() {
        e.by(2, "A BAY by a TEXT of n cells", "taken as a row of a LANE: how many CELLS; -100 less the FIRST FAULT.",
            "A BAY by a TEXT: b, a digit 0 .. 9 (SUN), a digit 2 .. 4 (WIDE: columns), a digit 2, 3 (LONG: rows), then for each CELL, row by row, a letter and a digit 0 .. 9 (WET).");
        for (int wide = 2; wide <= 4; wide++) {
            for (int rows = 2; rows <= 3; rows++) {
                DriedMap x = new DriedMap();
                String text = "b0" + wide + rows + "m0".repeat(wide * rows);
                e.is(x, text, Due.take(x, text), wide * rows);
                e.is("WIDE of " + text, x.many(0), wide);
                e.is("LONG of " + text, x.many(1), rows);
            }
        }
        for (int digit = 0; digit <= 9; digit++) {
            DriedMap x = new DriedMap();
            String text = "b" + digit + "22m1m2m3s" + digit;
            e.is(x, text, Due.take(x, text), 4);
            e.is("SUN of " + text, x.many(2), digit);
            e.is("WET of the last CELL of " + text, x.ofCell(3, 1), digit);
        }
        e.by(2, "Kinds of CELLS: 0 MUD (m); 1 SAND (s), a MUD; 2 CLAY (c), a SAND.");
        for (int lane = 0; lane <= 2; lane++) {
            DriedMap x = new DriedMap();
            x.sheet(3, lane, SHORTEST.length());
            for (int i = 0; i < SHORTEST.length(); i++) {
                x.put(3, i, SHORTEST.charAt(i));
            }
            e.is(x, "as lane " + lane, x.bay(3, lane, 0, 12), 4);
            int[] kinds = {0, 1, 2, 0};
            for (int c = 0; c < 4; c++) {
                e.is("kind of CELL " + c, x.ofCell(c, 0), kinds[c]);
            }
        }
    }

    /** A code in place of another one, where all codes ahead of it are good. */
    private void codesBesideGoodOnes() {
        e.by(2, "FIRST FAULT: the place (from 0 on) of the first code with which no TEXT goes on",
            "(Codes: b 98, m 109, s 115, c 99, digits 48 .. 57.)");
        String good = "b522m1s2c3m4";
        String[] bad = {"ac`B0m", "/:bm", "1/5:m", "1/4:m", "lnrtbdMSC0\u007f", "/:mb", "lnrtbdMSC9", "/:sb"};
        for (int place = 0; place < bad.length; place++) {
            for (char code : bad[place].toCharArray()) {
                String text = good.substring(0, place) + code + good.substring(place + 1);
                e.leaves("bay of " + text, () -> States.written(text), x -> x.bay(0, 0, 0, 12), -100 - place);
            }
        }
        for (int code : new int[] {0, -1, -98, 127, -128}) {
            e.leaves("code " + code, () -> States.fill(States.small(), 0, 0, code, 53), x -> x.bay(0, 0, 0, 2), -100);
        }
        DriedMap x = new DriedMap();
        e.is(x, "the first of several", Due.take(x, "b5x9x9"), -102);
        e.is(x, "it, though it ends too soon as well", Due.take(x, "b522m1q"), -106);
        e.is(x, "all are bad", Due.take(x, "xxxxxxxxxxxx"), -100);
        e.is(x, "the last is bad", Due.take(x, "b522m1s2c3mm"), -111);
        States.fill(x, 0, 2, 98, 48, 50, 50, 109, 57, 115, 57, 99, 57, 109, 57);
        e.is(x, "by numbers", x.bay(0, 2, 0, 12), 4);
    }

    private void textsThatEndTooSoon() {
        e.by(2, "how many codes there are, if it just ends too soon.");
        for (String text : new String[] {LONGEST, SHORTEST}) {
            for (int n = 0; n < text.length(); n++) {
                int codes = n;
                e.leaves(codes + " codes of " + text, () -> States.written(text), x -> x.bay(0, 0, 0, codes), -100 - codes);
                String cut = text.substring(0, n);
                e.leaves("bay of " + cut, () -> States.written(cut), x -> x.bay(0, 0, 0, codes), -100 - codes);
            }
        }
    }

    private void textsThatGoOnTooLong() {
        e.by(2, "(what comes behind the last CELL)");
        for (String text : States.SHAPES) {
            for (String more : new String[] {"b", "m", "0", " ", "m1", "m1m1"}) {
                DriedMap x = Due.bayOf(SHORTEST);
                e.is(x, "bay of " + text + more, Due.take(x, text + more), -100 - text.length());
                e.is("SUN is that of the last one taken", x.many(2), 0);
            }
        }
    }

    private void codesAreCutToTheirLane() {
        e.by(2, "what comes to a cell of it is cut to its LANE.", "of a LANE: 0 bytes, 1 shorts, 2 ints");
        int[][] firsts = {{0, 98 + 256, 4}, {0, 98 - 256, 4}, {0, 98 + 65536, 4}, {0, 98 + 128, -100}, {1, 98 + 65536, 4},
            {1, 98 - 65536, 4}, {1, 98 + 256, -100}, {1, 98 + 32768, -100}, {2, 98 + 256, -100}, {2, 98 + 65536, -100},
            {2, 98 + MIN, -100}, {2, 98, 4}};
        for (int[] of : firsts) {
            DriedMap x = new DriedMap();
            States.fill(x, 0, of[0], of[1], 48, 50, 50, 109, 48, 115, 57, 99, 53, 109, 49);
            e.is(x, "a TEXT that begins with " + of[1] + ", lane " + of[0], x.bay(0, of[0], 0, 12), of[2]);
        }
    }

    private void numbersOfCells() {
        e.by(2, "The CELL in column x, row y has the number WIDE times y, and x.");
        for (String shape : States.SHAPES) {
            DriedMap x = new DriedMap();
            Due.take(x, shape);
            int wide = x.many(0), cells = wide * x.many(1);
            for (int c = 0; c < cells; c++) {
                e.is("WET of CELL " + c + " of " + shape, x.ofCell(c, 1), shape.charAt(5 + 2 * c) - '0');
            }
            x.dry(9);
            for (int c = 0; c < cells; c++) {
                int apart = Math.abs(c % wide - (cells - 1) % wide) + Math.abs(c / wide - (cells - 1) / wide);
                e.is("way(" + c + ", " + (cells - 1) + ") of " + shape, x.way(c, cells - 1), apart);
            }
        }
    }

    /** Each shape behind each other one: what is beside a CELL goes by the columns that there are now. */
    private void shapesBehindEachOther() {
        e.by(2, "A TEXT that is taken makes all anew:");
        for (String first : States.SHAPES) {
            for (String shape : States.SHAPES) {
                DriedMap x = Due.bayOf(first);
                x.dates(0);
                Due.take(x, shape);
                int wide = x.many(0), cells = wide * x.many(1);
                x.dry(9);
                for (int c = 0; c < cells; c++) {
                    int d = (c + 1) % cells;
                    int apart = Math.abs(c % wide - d % wide) + Math.abs(c / wide - d / wide);
                    e.is("way(" + c + ", " + d + ") of " + shape + " behind " + first, x.way(c, d), apart);
                    e.is("way(" + d + ", " + c + ") of " + shape + " behind " + first, x.way(d, c), apart);
                }
            }
        }
    }

    private void allIsMadeAnew() {
        e.by(2, "A TEXT that is taken makes all anew: HOUR 0, no READINGS.");
        DriedMap x = States.large();
        e.is("HOUR ahead of it", x.many(3), 2);
        e.is("READINGS ahead of it", x.many(5), 8);
        e.is(x, "a smaller one", Due.take(x, "b322m1s0c3m4"), 4);
        int[] want = {2, 2, 3, 0, 1, 0};
        for (int what = 0; what <= 5; what++) {
            e.is("many(" + what + ")", x.many(what), want[what]);
        }
        e.is("CELL 4 is no more", x.ofCell(4, 0), Due.UNKNOWN);
        e.is("back(1)", x.back(1), Due.OUTSIDE);
        e.is("wets(0)", x.wets(0), 1023);
        e.is("reading(3, 0, 1)", x.reading(3, 0, 1), 0);
        x.dry(30);
        x.silt(0, 2);
        x.shine(9);
        e.is(x, "the same again", x.bay(0, 0, 0, 12), 4);
        e.is("HOUR", x.many(3), 0);
        e.is("SUN", x.many(2), 3);
        e.is("READINGS", x.many(5), 0);
        e.is("WET", x.ofCell(3, 1), 4);
        e.is("kind", x.ofCell(0, 0), 0);
        e.is("the SHEET stays", x.cell(0, 11, 0), '4');
        e.is(x, "a larger one", Due.take(x, LONGEST), 12);
        e.is("CELL 11 is there", x.ofCell(11, 1), 1);
    }

    private void refusalsOfOfCell() {
        e.by(3, "(0: it is CRACKED). UNKNOWN;");
        for (String shape : States.SHAPES) {
            int cells = (shape.length() - 4) / 2;
            for (int what = 0; what <= 4; what++) {
                int asked = what;
                for (int c : new int[] {-1, cells, 12, 31, 32, 33, MIN, MAX}) {
                    e.refuses("UNKNOWN", "ofCell(" + c + ", " + asked + ") of " + shape, () -> Due.bayOf(shape), x -> x.ofCell(c, asked));
                }
            }
            e.is("kind of the last of " + shape, Due.bayOf(shape).ofCell(cells - 1, 0), 0);
        }
        e.refuses("UNKNOWN", "ofCell(0, 0) without a BAY", States::noBay, x -> x.ofCell(0, 0));
        e.refuses("UNKNOWN", "ofCell(4, 5): ahead of OUTSIDE", States::small, x -> x.ofCell(4, 5));
        e.refuses("UNKNOWN", "ofCell(-1, -1): ahead of OUTSIDE", States::small, x -> x.ofCell(-1, -1));
        e.by(3, "UNKNOWN; OUTSIDE.", "OUTSIDE (another number is not as told)");
        for (int what : new int[] {-1, 5, 32, MIN, MAX}) {
            e.refuses("OUTSIDE", "ofCell(0, " + what + ")", States::small, x -> x.ofCell(0, what));
            e.refuses("OUTSIDE", "ofCell(3, " + what + ")", States::small, x -> x.ofCell(3, what));
        }
    }

    private void answersOfOfCell() {
        e.by(3, "Of a CELL: 0 kind, 1 WET,", "3 whether it is CRACKED (1, 0),", "CRACKED is a CELL whose WET is 0.");
        DriedMap x = Due.bayOf("b022m0s1c9s9");
        int[][] want = {{0, 0, 1}, {1, 1, 0}, {2, 9, 0}, {1, 9, 0}};
        for (int c = 0; c < 4; c++) {
            e.is("kind of " + c, x.ofCell(c, 0), want[c][0]);
            e.is("WET of " + c, x.ofCell(c, 1), want[c][1]);
            e.is("whether " + c + " is CRACKED", x.ofCell(c, 3), want[c][2]);
        }
        for (int what = 0; what <= 4; what++) {
            int asked = what;
            int[] of = {1, 6, 3, 0, 3};
            e.leaves("ofCell(1, " + asked + ")", States::small, y -> y.ofCell(1, asked), of[asked]);
        }
    }

    private void whatCellsLose() {
        e.by(3, "2 what it LOSES,", "LOSES: how much WET a CELL loses in an HOUR: MUD SUN; SAND 1 more; CLAY half of what MUD does.",
            "Quotients are cut.");
        int[] halves = {0, 0, 1, 1, 2, 2, 3, 3, 4, 4};
        DriedMap x = Due.bayOf("b022m9s9c9m0");
        for (int sun = 0; sun <= 9; sun++) {
            x.shine(sun);
            e.is("MUD by SUN " + sun, x.ofCell(0, 2), sun);
            e.is("SAND by SUN " + sun, x.ofCell(1, 2), sun + 1);
            e.is("CLAY by SUN " + sun, x.ofCell(2, 2), halves[sun]);
            e.is("MUD that is CRACKED, by SUN " + sun, x.ofCell(3, 2), sun);
        }
    }

    private void piecesOfCells() {
        e.by(3, "4 how many CELLS its PIECE has (0: it is CRACKED).");
        DriedMap x = Due.bayOf("b022m1m0m0m1");
        e.is("by a corner alone: 0", x.ofCell(0, 4), 1);
        e.is("by a corner alone: 3", x.ofCell(3, 4), 1);
        e.is("CRACKED: 1", x.ofCell(1, 4), 0);
        x = Due.bayOf("b043m1m1m1m1m1m1m1m1m1m1m1m1");
        e.is("all of 12, from the first", x.ofCell(0, 4), 12);
        e.is("all of 12, from the last", x.ofCell(11, 4), 12);
        x = Due.bayOf("b033m0m0m1m1m0m0m0m0m0");
        e.is("the end of a row is not beside the next one's first", x.ofCell(2, 4), 1);
        e.is("the first of a row is not beside the last one's end", x.ofCell(3, 4), 1);
        x = Due.bayOf("b043m1m1m1m1m0m0m0m1m1m1m1m1");
        e.is("round two corners", x.ofCell(8, 4), 9);
    }

    private void shine() {
        e.by(4, "SUN becomes v (0 .. 9): what it was.");
        DriedMap x = Due.bayOf("b522m1s2c3m4");
        int was = 5;
        for (int v : new int[] {0, 9, 9, 0, 0, 1}) {
            e.is("shine(" + v + ")", x.shine(v), was);
            e.is("SUN", x.many(2), v);
            was = v;
        }
        e.is("no HOUR goes by", x.many(3), 0);
        e.by(4, "OUTSIDE; STATE: there is no BAY.");
        for (int v : new int[] {-1, 10, MIN, MAX}) {
            e.refuses("OUTSIDE", "shine(" + v + ")", States::small, y -> y.shine(v));
            e.refuses("OUTSIDE", "shine(" + v + ") without a BAY: ahead of STATE", States::noBay, y -> y.shine(v));
        }
        e.refuses("STATE", "shine(0)", States::noBay, y -> y.shine(0));
        e.refuses("STATE", "shine(9)", States::noBay, y -> y.shine(9));
    }

    private void silt() {
        e.by(5, "A CELL becomes one of a kind (0 .. 2): what it was.");
        DriedMap x = Due.bayOf("b522m1s0c3m4");
        for (int c = 0; c < 4; c++) {
            int was = x.ofCell(c, 0), wet = x.ofCell(c, 1);
            for (int kind : new int[] {2, 2, 0, 0, 1, 1}) {
                e.is("silt(" + c + ", " + kind + ")", x.silt(c, kind), was);
                e.is("kind", x.ofCell(c, 0), kind);
                e.is("WET stays", x.ofCell(c, 1), wet);
                was = kind;
            }
        }
        e.is("CRACKED stays", x.cracks(0), 2);
        e.by(5, "what it was. UNKNOWN; OUTSIDE.");
        for (int c : new int[] {-1, 4, 12, MIN, MAX}) {
            e.refuses("UNKNOWN", "silt(" + c + ", 0)", States::small, y -> y.silt(c, 0));
            e.refuses("UNKNOWN", "silt(" + c + ", 3): ahead of OUTSIDE", States::small, y -> y.silt(c, 3));
        }
        e.refuses("UNKNOWN", "silt(12, 0) of 12 CELLS", States::large, y -> y.silt(12, 0));
        e.refuses("UNKNOWN", "silt(0, 0) without a BAY", States::noBay, y -> y.silt(0, 0));
        for (int kind : new int[] {-1, 3, MIN, MAX}) {
            e.refuses("OUTSIDE", "silt(0, " + kind + ")", States::small, y -> y.silt(0, kind));
            e.refuses("OUTSIDE", "silt(3, " + kind + ")", States::small, y -> y.silt(3, kind));
        }
    }
}
