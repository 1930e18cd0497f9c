/** Edges of promises 6 to 9: dry, pour, cracks, way. */
final class HoursEdges {
    private static final int MIN = Integer.MIN_VALUE, MAX = Integer.MAX_VALUE;

    private final Edges e;

    HoursEdges(Edges e) {
        this.e = e;
    }

    void all() {
        hoursThatGoBy();
        cellsThatCrack();
        refusalsOfDry();
        pourings();
        refusalsOfPour();
        crackedOnes();
        open();
        pieces();
        refusalsOfCracks();
        ways();
        noWays();
        refusalsOfWay();
    }

    private void hoursThatGoBy() {
        e.by(6, "n HOURS (1 .. 30) go by:", "An HOUR: each CELL is less WET by what it LOSES (0 at least).");
        DriedMap x = Due.bayOf("b022m9s9c9m0");
        e.is("dry(1)", x.dry(1), 0);
        e.is("HOUR", x.many(3), 1);
        e.is("SAND", x.ofCell(1, 1), 8);
        e.is("dry(7)", x.dry(7), 0);
        e.is("SAND has 1 left", x.ofCell(1, 1), 1);
        e.is("dry(30)", x.dry(30), 1);
        e.is("HOUR", x.many(3), 38);
        e.is("SAND is at 0", x.ofCell(1, 1), 0);
        e.is("MUD without SUN", x.ofCell(0, 1), 9);
        e.is("CLAY without SUN", x.ofCell(2, 1), 9);
        x = Due.bayOf("b922m9s9c9m1");
        e.is("the strongest SUN", x.dry(1), 3);
        int[] wets = {0, 0, 5, 0};
        for (int c = 0; c < 4; c++) {
            e.is("WET of " + c, x.ofCell(c, 1), wets[c]);
        }
        x.shine(0);
        x.silt(1, 0);
        e.is("what is at 0 stays there", x.dry(30), 0);
        e.is("WET of 1", x.ofCell(1, 1), 0);
        for (int k = 0; k < 400; k++) {
            x.dry(30);
        }
        e.is("HOUR", x.many(3), 1 + 30 + 400 * 30);
    }

    private void cellsThatCrack() {
        e.by(6, "go by: how many CELLS are CRACKED then that were not.");
        DriedMap x = Due.bayOf("b222m4s6c2m0");
        e.is("one was CRACKED ahead of it", x.dry(1), 0);
        e.is("three at once", x.dry(1), 3);
        e.is("none is left", x.dry(1), 0);
        x = Due.bayOf("b143m1m1m1m1m1m1m1m1m1m1m1m1");
        e.is("all of 12", x.dry(1), 12);
        x = Due.bayOf("b143m9m9m9m9m9m9m9m9m9m9m9m8");
        e.is("one of 12, at its last", x.dry(8), 1);
        e.is("the other 11", x.dry(1), 11);
    }

    private void refusalsOfDry() {
        e.by(6, "that were not. OUTSIDE; STATE: there is no BAY.");
        for (int n : new int[] {0, -1, 31, MIN, MAX}) {
            e.refuses("OUTSIDE", "dry(" + n + ")", States::small, x -> x.dry(n));
            e.refuses("OUTSIDE", "dry(" + n + ") without a BAY: ahead of STATE", States::noBay, x -> x.dry(n));
        }
        e.refuses("STATE", "dry(1)", States::noBay, x -> x.dry(1));
        e.refuses("STATE", "dry(30)", States::noBay, x -> x.dry(30));
    }

    private void pourings() {
        e.by(7, "A CELL is POURED on by v (1 .. 9): its WET.", "A CELL that is not CRACKED is POURED on: it is more WET (9 at most).");
        int[][] of = {{1, 1, 2}, {1, 7, 8}, {1, 8, 9}, {1, 9, 9}, {7, 1, 8}, {8, 1, 9}, {8, 2, 9}, {9, 1, 9}, {9, 9, 9}, {5, 4, 9}, {5, 5, 9}};
        for (int[] o : of) {
            for (char kind : "msc".toCharArray()) {
                DriedMap x = Due.bayOf("b322m5m5m5" + kind + o[0]);
                e.is("pour(3, " + o[1] + ") on " + kind + o[0], x.pour(3, o[1]), o[2]);
                e.is("WET", x.ofCell(3, 1), o[2]);
                e.is("WET of another one", x.ofCell(2, 1), 5);
                e.is("no HOUR goes by", x.many(3), 0);
            }
        }
    }

    private void refusalsOfPour() {
        e.by(7, "its WET. UNKNOWN; OUTSIDE; STATE: it is CRACKED.");
        for (int c : new int[] {-1, 4, 12, MIN, MAX}) {
            e.refuses("UNKNOWN", "pour(" + c + ", 1)", States::small, x -> x.pour(c, 1));
            e.refuses("UNKNOWN", "pour(" + c + ", 10): ahead of OUTSIDE", States::small, x -> x.pour(c, 10));
        }
        e.refuses("UNKNOWN", "pour(0, 1) without a BAY", States::noBay, x -> x.pour(0, 1));
        e.refuses("UNKNOWN", "pour(12, 1) of 12 CELLS", States::large, x -> x.pour(12, 1));
        for (int v : new int[] {0, -1, 10, MIN, MAX}) {
            e.refuses("OUTSIDE", "pour(0, " + v + ")", States::small, x -> x.pour(0, v));
            e.refuses("OUTSIDE", "pour(3, " + v + "): ahead of STATE", States::small, x -> x.pour(3, v));
        }
        e.refuses("STATE", "pour(3, 1)", States::small, x -> x.pour(3, 1));
        e.refuses("STATE", "pour(3, 9)", States::small, x -> x.pour(3, 9));
        e.refuses("STATE", "pour(11, 9)", States::large, x -> x.pour(11, 9));
    }

    private void crackedOnes() {
        e.by(8, "CRACKED ones, as a set (what 0),", "Sets are told as bits (bit k for number k).");
        DriedMap x = Due.bayOf("b043m1m1m1m1m1m1m1m1m1m1m1m1");
        e.is("none", x.cracks(0), 0);
        for (int c = 0; c < 12; c++) {
            StringBuilder text = new StringBuilder("b043" + "m1".repeat(12));
            text.setCharAt(5 + 2 * c, '0');
            e.is("just " + c, Due.bayOf(text.toString()).cracks(0), 1 << c);
        }
        x = Due.bayOf("b043" + "s0".repeat(12));
        e.is("all", x.cracks(0), 4095);
        e.is("all of four", Due.bayOf("b022m0s0c0m0").cracks(0), 15);
    }

    private void open() {
        e.by(8, "whether it is OPEN (1; 1, 0),", "CELLS are beside each other by columns, rows.",
            "OPEN is the BAY, if one can go from a CRACKED CELL of row 0 to one of the last row by CRACKED CELLS, each beside the one ahead of it.");
        e.is("none CRACKED", Due.bayOf("b022m1m1m1m1").cracks(1), 0);
        e.is("all CRACKED", Due.bayOf("b022m0m0m0m0").cracks(1), 1);
        e.is("a corner alone", Due.bayOf("b022m0m1m1m0").cracks(1), 0);
        e.is("the other corner alone", Due.bayOf("b022m1m0m0m1").cracks(1), 0);
        e.is("row 0 alone", Due.bayOf("b042m0m0m0m0m1m1m1m1").cracks(1), 0);
        e.is("the last row alone", Due.bayOf("b042m1m1m1m1m0m0m0m0").cracks(1), 0);
        e.is("the first column", Due.bayOf("b042m0m1m1m1m0m1m1m1").cracks(1), 1);
        e.is("the last column", Due.bayOf("b042m1m1m1m0m1m1m1m0").cracks(1), 1);
        e.is("two of three rows", Due.bayOf("b023m0m0m0m0m1m1").cracks(1), 0);
        e.is("a row between is not", Due.bayOf("b023m0m0m1m1m0m0").cracks(1), 0);
        e.is("along the row between", Due.bayOf("b043m0m1m1m1m0m0m0m0m1m1m1m0").cracks(1), 1);
        e.is("a gap in it", Due.bayOf("b043m0m1m1m1m0m0m1m0m1m1m1m0").cracks(1), 0);
        e.is("from the end of a row to the next one's first", Due.bayOf("b032m1m1m0m0m1m1").cracks(1), 0);
        e.is("from the first of a row to the last one's end", Due.bayOf("b033m1m1m0m1m1m0m0m1m1").cracks(1), 0);
    }

    private void pieces() {
        e.by(8, "how many PIECES there are (2), how many CELLS the greatest has (3).", "PIECES: CELLS that are not CRACKED and hang together.");
        String[] texts = {"b022m0m0m0m0", "b022m1m1m1m1", "b022m1m0m0m1", "b022m0m0m0m1", "b022m1m0m0m0", "b043" + "m9".repeat(12),
            "b043m1m0m1m0m0m1m0m1m1m0m1m0", "b033m0m0m1m1m0m0m0m1m1", "b043m1m1m1m1m0m0m0m0m1m1m1m0"};
        int[][] want = {{0, 0}, {1, 4}, {2, 1}, {1, 1}, {1, 1}, {1, 12}, {6, 1}, {3, 2}, {2, 4}};
        for (int t = 0; t < texts.length; t++) {
            e.is("PIECES of " + texts[t], Due.bayOf(texts[t]).cracks(2), want[t][0]);
            e.is("the greatest of " + texts[t], Due.bayOf(texts[t]).cracks(3), want[t][1]);
        }
        int[] ofSmall = {8, 0, 1, 3};
        for (int what = 0; what <= 3; what++) {
            int asked = what;
            e.leaves("cracks(" + asked + ")", States::small, x -> x.cracks(asked), ofSmall[asked]);
        }
    }

    private void refusalsOfCracks() {
        e.by(8, "the greatest has (3). OUTSIDE; STATE: there is no BAY.");
        for (int what : new int[] {-1, 4, MIN, MAX}) {
            e.refuses("OUTSIDE", "cracks(" + what + ")", States::small, x -> x.cracks(what));
            e.refuses("OUTSIDE", "cracks(" + what + ") without a BAY: ahead of STATE", States::noBay, x -> x.cracks(what));
        }
        for (int what = 0; what <= 3; what++) {
            int asked = what;
            e.refuses("STATE", "cracks(" + asked + ")", States::noBay, x -> x.cracks(asked));
        }
    }

    private void ways() {
        e.by(9, "WAY; NONE.", "WAY from a CRACKED CELL to another one: the fewest steps by CRACKED CELLS (0 to itself);");
        DriedMap x = Due.bayOf("b043m0m0m0m0m1m1m1m0m0m0m0m0");
        e.is("the longest there is", x.way(0, 8), 8);
        e.is("and back", x.way(8, 0), 8);
        e.is("one step along the row", x.way(0, 1), 1);
        e.is("one step along the column", x.way(3, 7), 1);
        e.is("0 to itself, the first", x.way(0, 0), 0);
        e.is("0 to itself, the last", x.way(11, 11), 0);
        x = Due.bayOf("b022m1m1m1m0");
        e.is("0 to itself, where none is beside it", x.way(3, 3), 0);
        x = Due.bayOf("b043" + "m0".repeat(12));
        e.is("corner to corner", x.way(0, 11), 5);
        e.is("the end of a row, the next one's first", x.way(3, 4), 4);
        x = Due.bayOf("b033m0m0m0m0m1m0m0m0m0");
        e.is("the nearer of two ways round", x.way(0, 7), 3);
        e.is("both alike", x.way(0, 8), 4);
    }

    private void noWays() {
        e.by(9, "NONE: there is none, either is not CRACKED.", "NONE is -9.");
        DriedMap x = Due.bayOf("b032m0m1m0m1m0m1");
        e.is("NONE", DriedMap.NONE, -9);
        e.is("by a corner alone", x.way(0, 4), Due.NONE);
        e.is("one that is not CRACKED between", x.way(0, 2), Due.NONE);
        e.is("the first is not CRACKED", x.way(1, 0), Due.NONE);
        e.is("the other is not CRACKED", x.way(0, 1), Due.NONE);
        e.is("neither is CRACKED", x.way(1, 3), Due.NONE);
        e.is("to itself, not CRACKED", x.way(3, 3), Due.NONE);
        x = Due.bayOf("b032m1m1m0m0m1m1");
        e.is("the end of a row, the next one's first", x.way(2, 3), Due.NONE);
        e.is("and back", x.way(3, 2), Due.NONE);
        e.leaves("way(3, 3)", States::small, y -> y.way(3, 3), 0);
        e.leaves("way(0, 3)", States::small, y -> y.way(0, 3), Due.NONE);
    }

    private void refusalsOfWay() {
        e.by(9, "UNKNOWN: either.");
        for (int c : new int[] {-1, 4, 12, 32, MIN, MAX}) {
            e.refuses("UNKNOWN", "way(" + c + ", 3)", States::small, x -> x.way(c, 3));
            e.refuses("UNKNOWN", "way(3, " + c + ")", States::small, x -> x.way(3, c));
            e.refuses("UNKNOWN", "way(" + c + ", " + c + ")", States::small, x -> x.way(c, c));
            e.refuses("UNKNOWN", "way(0, " + c + "), where 0 is not CRACKED", States::small, x -> x.way(0, c));
        }
        e.refuses("UNKNOWN", "way(0, 0) without a BAY", States::noBay, x -> x.way(0, 0));
        e.refuses("UNKNOWN", "way(11, 12) of 12 CELLS", States::large, x -> x.way(11, 12));
    }
}
