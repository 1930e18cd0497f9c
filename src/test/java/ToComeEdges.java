/** Edges of promises 11 to 14: when, opens, bars, dates. */
final class ToComeEdges {
    private static final int MIN = Integer.MIN_VALUE, MAX = Integer.MAX_VALUE;
    private static final int EVER = (1 << 21) - 1;

    private final Edges e;

    ToComeEdges(Edges e) {
        this.e = e;
    }

    void all() {
        when();
        never();
        refusalsOfWhen();
        opens();
        barsOfSeveral();
        barsBehindHours();
        refusalsOfBars();
        dates();
        refusalsOfDates();
    }

    private void when() {
        e.by(11, "WHEN; NONE.", "(HOURS from now on, nothing else being done.) WHEN of a CELL: behind how many HOURS (0 .. 20) it is CRACKED;");
        int[][] of = {{1, 0, 0}, {1, 1, 1}, {1, 8, 8}, {1, 9, 9}, {2, 8, 4}, {2, 9, 5}, {8, 8, 1}, {8, 9, 2}, {9, 9, 1}, {9, 1, 1}};
        for (int[] o : of) {
            e.is("MUD " + o[1] + " by SUN " + o[0], Due.bayOf("b" + o[0] + "22m" + o[1] + "m5m5m5").when(0), o[2]);
            int sandSun = o[0] - 1;
            e.is("SAND " + o[1] + " by SUN " + sandSun, Due.bayOf("b" + sandSun + "22m5m5m5s" + o[1]).when(3), o[2]);
        }
        int[][] clay = {{2, 9, 9}, {3, 9, 9}, {4, 9, 5}, {5, 9, 5}, {8, 9, 3}, {9, 9, 3}, {9, 8, 2}, {0, 0, 0}, {1, 0, 0}};
        for (int[] o : clay) {
            e.is("CLAY " + o[1] + " by SUN " + o[0], Due.bayOf("b" + o[0] + "22m5c" + o[1] + "m5m5").when(1), o[2]);
        }
        DriedMap x = Due.bayOf("b122m9m9m9m9");
        x.dry(3);
        e.is("from now on", x.when(0), 6);
        x.pour(0, 9);
        e.is("from now on, poured on", x.when(0), 9);
        e.leaves("when(0)", States::small, y -> y.when(0), 4);
        e.leaves("when(3)", States::small, y -> y.when(3), 0);
    }

    private void never() {
        e.by(11, "NONE: not by then.");
        e.is("MUD without SUN", Due.bayOf("b022m1m5m5m5").when(0), Due.NONE);
        e.is("CLAY without SUN", Due.bayOf("b022c1m5m5m5").when(0), Due.NONE);
        e.is("CLAY by SUN 1", Due.bayOf("b122c9m5m5m5").when(0), Due.NONE);
        e.is("SAND without SUN", Due.bayOf("b022s9m5m5m5").when(0), 9);
        e.is("CRACKED, without SUN", Due.bayOf("b022m0m5m5m5").when(0), 0);
    }

    private void refusalsOfWhen() {
        e.by(11, "NONE. UNKNOWN.");
        for (int c : new int[] {-1, 4, 12, MIN, MAX}) {
            e.refuses("UNKNOWN", "when(" + c + ")", States::small, x -> x.when(c));
        }
        e.refuses("UNKNOWN", "when(0) without a BAY", States::noBay, x -> x.when(0));
        e.refuses("UNKNOWN", "when(12) of 12 CELLS", States::large, x -> x.when(12));
    }

    private void opens() {
        e.by(12, "OPENS; NONE.", "OPENS: behind how many HOURS (0 .. 20) the BAY is OPEN; NONE.");
        e.is("OPEN now", Due.bayOf("b022m0m9m0m9").opens(), 0);
        e.is("behind 1", Due.bayOf("b122m1m9m0m9").opens(), 1);
        e.is("behind 9", Due.bayOf("b122m9m9m9m9").opens(), 9);
        e.is("the later of a column", Due.bayOf("b122m2m9m7m9").opens(), 7);
        e.is("the sooner of two columns", Due.bayOf("b122m2m6m7m5").opens(), 6);
        e.is("by the last column of 4 by 3", Due.bayOf("b143m9m9m9m1m9m9m9m2m9m9m9m3").opens(), 3);
        e.is("never, without SUN", Due.bayOf("b022m0m9m1m9").opens(), Due.NONE);
        e.is("never, by CLAY", Due.bayOf("b122m0m0c1c1").opens(), Due.NONE);
        e.is("by SAND without SUN", Due.bayOf("b022m0m0c1s9").opens(), 9);
        e.leaves("opens()", States::small, x -> x.opens(), 2);
        DriedMap x = Due.bayOf("b122m9m9m9m9");
        x.dry(8);
        e.is("from now on", x.opens(), 1);
        e.by(12, "NONE. STATE: there is no BAY.", "STATE (as told), FULL;");
        e.refuses("STATE", "opens()", States::noBay, y -> y.opens());
    }

    private void barsOfSeveral() {
        e.by(13, "BARS behind n HOURS", ", as a set.",
            "so that it is not OPEN then: as a set: of several the least.");
        e.is("none, where it is not OPEN", Due.bayOf("b022m0m1m1m0").bars(0), 0);
        e.is("none, where none is CRACKED", Due.bayOf("b022m1m1m1m1").bars(0), 0);
        e.is("one of a column: 0, not 2", Due.bayOf("b022m0m1m0m1").bars(0), 1);
        e.is("one of a column: 1, not 3", Due.bayOf("b022m1m0m1m0").bars(0), 2);
        e.is("all of 2 by 2: 0 and 1", Due.bayOf("b022m0m0m0m0").bars(0), 3);
        e.is("all of 4 by 3: a row", Due.bayOf("b043" + "m0".repeat(12)).bars(0), 15);
        e.is("the neck alone, though 0, 1, 2 are a lesser set", Due.bayOf("b043m0m0m0m9m0m0m0m9m9m9m0m9").bars(0), 64);
        e.is("the CELL above the last one, not the last one", Due.bayOf("b043m0m0m0m0m0m0m0m0m9m9m9m0").bars(0), 1 << 7);
        e.is("two of unlike rows", Due.bayOf("b043m0m0m0m9m0m0m0m9m0m0m9m9").bars(0), 1 + 32);
    }

    private void barsBehindHours() {
        e.by(13, "(0 .. 20)", "BARS behind n HOURS: the fewest CELLS that are to be kept from cracking (are not CRACKED then, whatever they are now)");
        DriedMap x = Due.bayOf("b122m0m9m1m9");
        e.is("behind 0", x.bars(0), 0);
        e.is("behind 1: CELL 0, which is CRACKED now", x.bars(1), 1);
        e.is("behind 8", x.bars(8), 1);
        e.is("behind 9", x.bars(9), 3);
        e.is("behind 20", x.bars(20), 3);
        e.leaves("bars(20)", States::small, y -> y.bars(20), 3);
        e.leaves("bars(0)", States::small, y -> y.bars(0), 0);
    }

    private void refusalsOfBars() {
        e.by(13, "OUTSIDE; STATE: there is no BAY.");
        for (int n : new int[] {-1, 21, MIN, MAX}) {
            e.refuses("OUTSIDE", "bars(" + n + ")", States::small, x -> x.bars(n));
            e.refuses("OUTSIDE", "bars(" + n + ") without a BAY: ahead of STATE", States::noBay, x -> x.bars(n));
        }
        e.refuses("STATE", "bars(0)", States::noBay, x -> x.bars(0));
        e.refuses("STATE", "bars(20)", States::noBay, x -> x.bars(20));
    }

    private void dates() {
        e.by(14, "DATES, as a set.", "DATES of a set: HOURS 0 .. 20 behind which just the CELLS of that set are CRACKED: as a set.");
        DriedMap x = Due.bayOf("b122m1m3m2m3");
        e.is("none of them", x.dates(0), 1);
        e.is("0", x.dates(1), 2);
        e.is("0 and 2", x.dates(5), 4);
        e.is("all, up to 20", x.dates(15), EVER - 7);
        e.is("more than these, at no HOUR", x.dates(7), 0);
        e.is("fewer than these, at no HOUR", x.dates(4), 0);
        x = Due.bayOf("b022m1m1c1m1");
        e.is("none of them ever", x.dates(0), EVER);
        e.is("all of them never", x.dates(15), 0);
        x = Due.bayOf("b022m0m0m0m0");
        e.is("all of them ever", x.dates(15), EVER);
        x = Due.bayOf("b122m9m9m9m9");
        e.is("HOURS 0 .. 8", x.dates(0), 511);
        e.is("HOURS 9 .. 20", x.dates(15), EVER - 511);
        e.leaves("dates(8)", States::small, y -> y.dates(8), 3);
        e.leaves("dates(15)", States::small, y -> y.dates(15), EVER - 15);
    }

    private void refusalsOfDates() {
        e.by(14, "as a set. STATE: there is no BAY;");
        for (int set : new int[] {0, 1, -1, 16, 4096, MIN, MAX}) {
            e.refuses("STATE", "dates(" + set + "): ahead of OUTSIDE", States::noBay, x -> x.dates(set));
        }
        e.by(14, "OUTSIDE: a set of CELLS that there are.");
        for (String shape : States.SHAPES) {
            int all = (1 << (shape.length() - 4) / 2) - 1;
            // By SUN 5, four CELLS of WET 1 .. 4 need one HOUR, more of them two.
            e.leaves("all of " + shape, () -> Due.bayOf(shape), x -> x.dates(all), all == 15 ? EVER - 1 : EVER - 3);
            for (int set : new int[] {-1, all + 1, all + 2, 1 << 12, 1 << 30, MIN, MAX}) {
                e.refuses("OUTSIDE", "dates(" + set + ") of " + shape, () -> Due.bayOf(shape), x -> x.dates(set));
            }
        }
    }
}
