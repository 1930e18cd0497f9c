/** Edges of promises 15 to 20: reading, back, wets, kinds, suns, odds. */
final class ReadingsEdges {
    private static final int MIN = Integer.MIN_VALUE, MAX = Integer.MAX_VALUE;

    private final Edges e;

    ReadingsEdges(Edges e) {
        this.e = e;
    }

    void all() {
        readingsAreNumbered();
        refusalsOfReading();
        full();
        back();
        refusalsOfBack();
        wets();
        kinds();
        suns();
        readingsFromNow();
        odds();
        refusalsOfOdds();
    }

    private void readingsAreNumbered() {
        e.by(15, "A READING: its number.", "READINGS, 8 at most, numbered by how many there are:");
        DriedMap x = Due.bayOf("b222m4s6c2m0");
        int[][] of = {{0, 0, 0}, {0, 20, 1}, {1, 0, 0}, {1, 20, 1}, {2, 0, 0}, {2, 20, 1}, {3, 0, 1}, {3, 20, 1}};
        for (int k = 0; k < 8; k++) {
            e.is("how many ahead of it", x.many(5), k);
            e.is("reading " + k, x.reading(of[k][0], of[k][1], of[k][2]), k);
        }
        e.is("all eight are so", x.suns(), 1020);
        e.is("back(3)", x.back(3), 5);
        e.is("numbered again from there", x.reading(0, 0, 0), 5);
        e.is("the same again is another one", x.reading(0, 0, 0), 6);
        e.is("one that is not so", x.reading(0, 0, 1), 7);
    }

    private void refusalsOfReading() {
        e.by(15, "its number. UNKNOWN;");
        for (int c : new int[] {-1, 4, 12, MIN, MAX}) {
            e.refuses("UNKNOWN", "reading(" + c + ", 0, 0)", States::small, x -> x.reading(c, 0, 0));
            e.refuses("UNKNOWN", "reading(" + c + ", 21, 2): ahead of OUTSIDE", States::small, x -> x.reading(c, 21, 2));
        }
        e.refuses("UNKNOWN", "reading(0, 0, 0) without a BAY", States::noBay, x -> x.reading(0, 0, 0));
        e.refuses("UNKNOWN", "reading(12, 0, 0): ahead of FULL", States::large, x -> x.reading(12, 0, 0));
        e.by(15, "OUTSIDE: hours (0 .. 20), cracked (0, 1);");
        for (int hours : new int[] {-1, 21, MIN, MAX}) {
            e.refuses("OUTSIDE", "reading(0, " + hours + ", 0)", States::small, x -> x.reading(0, hours, 0));
            e.refuses("OUTSIDE", "reading(0, " + hours + ", 1): ahead of FULL", States::large, x -> x.reading(0, hours, 1));
        }
        for (int cracked : new int[] {-1, 2, MIN, MAX}) {
            e.refuses("OUTSIDE", "reading(0, 20, " + cracked + ")", States::small, x -> x.reading(0, 20, cracked));
            e.refuses("OUTSIDE", "reading(0, 0, " + cracked + "): ahead of FULL", States::large, x -> x.reading(0, 0, cracked));
        }
    }

    private void full() {
        e.by(15, "cracked (0, 1); FULL.");
        e.refuses("FULL", "a ninth", States::large, x -> x.reading(0, 0, 0));
        e.refuses("FULL", "a ninth, at its most", States::large, x -> x.reading(11, 20, 1));
        DriedMap x = States.large();
        for (int k = 0; k < 3; k++) {
            e.is("a ninth", x.reading(0, 0, 0), Due.FULL);
        }
        e.is("how many", x.many(5), 8);
        e.is("one is taken back", x.back(1), 7);
        e.is("there is room for one", x.reading(0, 0, 0), 7);
        e.is("and no more", x.reading(0, 0, 0), Due.FULL);
    }

    private void back() {
        e.by(16, "The last k READINGS (0 .. as many as there are) are taken back: how many are left.");
        DriedMap x = States.large();
        e.is("back(0) of 8", x.back(0), 8);
        e.is("back(1) of 8", x.back(1), 7);
        e.is("back(7) of 7", x.back(7), 0);
        e.is("back(0) of none", x.back(0), 0);
        e.is("how many", x.many(5), 0);
        e.is("back(8) of 8", States.large().back(8), 0);
        e.is("back(0) without a BAY", States.noBay().back(0), 0);
        e.leaves("back(0)", States::small, y -> y.back(0), 3);
        x = Due.bayOf("b122m1m2m3m4");
        x.reading(0, 0, 1);
        x.reading(1, 0, 1);
        e.is("both are not so", x.wets(0), 0);
        e.is("back(1)", x.back(1), 1);
        e.is("the first is left", x.wets(0), 1);
        e.is("the last is gone", x.wets(1), 0);
    }

    private void refusalsOfBack() {
        e.by(16, "are left. OUTSIDE.");
        for (int k : new int[] {-1, 4, 8, MIN, MAX}) {
            e.refuses("OUTSIDE", "back(" + k + ") of 3", States::small, x -> x.back(k));
        }
        for (int k : new int[] {-1, 9, MIN, MAX}) {
            e.refuses("OUTSIDE", "back(" + k + ") of 8", States::large, x -> x.back(k));
        }
        for (int k : new int[] {-1, 1, MIN, MAX}) {
            e.refuses("OUTSIDE", "back(" + k + ") without a BAY", States::noBay, x -> x.back(k));
        }
    }

    /** The set that wets(0) answers by one reading of cell 0. */
    private void wets(String text, int hours, int cracked, int want) {
        DriedMap x = Due.bayOf(text);
        x.reading(0, hours, cracked);
        e.is("wets(0) of " + text + " by (" + hours + ", " + cracked + ")", x.wets(0), want);
    }

    private void wets() {
        e.by(17, "WETS, as a set.", "All that follows: in place of what it is alone, by which all READINGS are so: WETS of a CELL: 0 .. 9;");
        e.is("no READINGS: 0 .. 9", Due.bayOf("b122m1m2m3m4").wets(3), 1023);
        wets("b122m5m2m3m4", 0, 1, 1);
        wets("b122m5m2m3m4", 0, 0, 1022);
        wets("b122m5m2m3m4", 8, 1, 511);
        wets("b122m5m2m3m4", 8, 0, 512);
        wets("b122m5m2m3m4", 9, 1, 1023);
        wets("b122m5m2m3m4", 9, 0, 0);
        wets("b122m5m2m3m4", 20, 1, 1023);
        wets("b022m5m2m3m4", 20, 1, 1);
        wets("b022m5m2m3m4", 20, 0, 1022);
        wets("b122s5m2m3m4", 4, 1, 511);
        wets("b322c5m2m3m4", 2, 1, 7);
        wets("b922m5m2m3m4", 1, 1, 1023);
        DriedMap x = Due.bayOf("b122m5m2m3m4");
        x.reading(0, 4, 0);
        x.reading(0, 5, 1);
        e.is("just one", x.wets(0), 32);
        e.is("of another CELL: all, as these are so", x.wets(3), 1023);
        x.reading(1, 1, 1);
        e.is("that of another CELL is not so", x.wets(0), 0);
        e.is("that of CELL 1 is, if it were 0 or 1", x.wets(1), 3);
        e.is("WET stays", x.ofCell(0, 1), 5);
        e.leaves("wets(0)", States::small, y -> y.wets(0), 1023 - 31);
        e.by(17, "as a set. UNKNOWN.");
        for (int c : new int[] {-1, 4, 12, MIN, MAX}) {
            e.refuses("UNKNOWN", "wets(" + c + ")", States::small, y -> y.wets(c));
        }
        e.refuses("UNKNOWN", "wets(0) without a BAY", States::noBay, y -> y.wets(0));
        e.refuses("UNKNOWN", "wets(12) of 12 CELLS", States::large, y -> y.wets(12));
    }

    private void kinds(String text, int hours, int cracked, int want) {
        DriedMap x = Due.bayOf(text);
        x.reading(0, hours, cracked);
        e.is("kinds(0) of " + text + " by (" + hours + ", " + cracked + ")", x.kinds(0), want);
    }

    private void kinds() {
        e.by(18, "KINDS, as a set.", "KINDS of a CELL: 0 .. 2;");
        e.is("no READINGS: 0 .. 2", Due.bayOf("b122m1m2m3m4").kinds(3), 7);
        kinds("b022m1m2m3m4", 1, 1, 2);
        kinds("b022m1m2m3m4", 20, 0, 5);
        kinds("b122m1m2m3m4", 1, 1, 3);
        kinds("b122m1m2m3m4", 1, 0, 4);
        kinds("b222m3m2m3m4", 1, 1, 2);
        kinds("b222m3m2m3m4", 2, 1, 3);
        kinds("b222m3m2m3m4", 3, 1, 7);
        kinds("b222m3m2m3m4", 3, 0, 0);
        kinds("b222m0m2m3m4", 0, 1, 7);
        kinds("b222m0m2m3m4", 0, 0, 0);
        DriedMap x = Due.bayOf("b222m3m2m3m4");
        x.reading(0, 2, 1);
        x.reading(3, 1, 1);
        e.is("that of another CELL is not so", x.kinds(0), 0);
        e.is("nor by any kind of that one", x.kinds(3), 0);
        e.is("kind stays", x.ofCell(0, 0), 0);
        e.leaves("kinds(1)", States::small, y -> y.kinds(1), 2);
        e.by(18, "as a set. UNKNOWN.");
        for (int c : new int[] {-1, 4, 12, MIN, MAX}) {
            e.refuses("UNKNOWN", "kinds(" + c + ")", States::small, y -> y.kinds(c));
        }
        e.refuses("UNKNOWN", "kinds(0) without a BAY", States::noBay, y -> y.kinds(0));
        e.refuses("UNKNOWN", "kinds(12) of 12 CELLS", States::large, y -> y.kinds(12));
    }

    private void suns(String text, int hours, int cracked, int want) {
        DriedMap x = Due.bayOf(text);
        x.reading(0, hours, cracked);
        e.is("suns() of " + text + " by (" + hours + ", " + cracked + ")", x.suns(), want);
    }

    private void suns() {
        e.by(19, "SUNS, as a set.", "SUNS: 0 .. 9; as sets.");
        e.is("no READINGS: 0 .. 9", Due.bayOf("b122m1m2m3m4").suns(), 1023);
        suns("b122m9m2m3m4", 1, 1, 512);
        suns("b122m9m2m3m4", 1, 0, 511);
        suns("b122s9m2m3m4", 1, 1, 768);
        suns("b122c9m2m3m4", 3, 1, 960);
        suns("b122c9m2m3m4", 5, 1, 1023 - 15);
        suns("b122m9m2m3m4", 20, 1, 1022);
        suns("b122m9m2m3m4", 20, 0, 1);
        suns("b122s9m2m3m4", 20, 0, 0);
        suns("b122m0m2m3m4", 0, 1, 1023);
        suns("b122m0m2m3m4", 0, 0, 0);
        DriedMap x = Due.bayOf("b122m9m2m3m4");
        x.reading(0, 2, 1);
        x.reading(1, 1, 1);
        x.reading(3, 1, 1);
        e.is("all of them: 5 .. 9", x.suns(), 1023 - 31);
        x.reading(0, 1, 0);
        e.is("all of them: 5 .. 8", x.suns(), 511 - 31);
        e.is("SUN stays", x.many(2), 1);
        e.leaves("suns()", States::small, y -> y.suns(), 4 + 8);
        e.by(19, "as a set. STATE: there is no BAY.");
        e.refuses("STATE", "suns()", States::noBay, y -> y.suns());
    }

    private void readingsFromNow() {
        e.by(17, "behind so many HOURS (from how all is now) a CELL is CRACKED (1) or not (0).");
        DriedMap x = Due.bayOf("b222m8s6c2m0");
        x.reading(0, 3, 1);
        e.is("6 at most, by 2", x.wets(0), 127);
        x.shine(1);
        e.is("3 at most, by 1", x.wets(0), 15);
        x.silt(0, 1);
        e.is("6 at most, by 2 again", x.wets(0), 127);
        e.is("8 by SUN 2 at least", x.suns(), 1023 - 3);
        x.dry(2);
        e.is("4 are left, so 1 does", x.suns(), 1023 - 1);
        x.pour(0, 9);
        e.is("9 by SUN 2 at least", x.suns(), 1023 - 3);
    }

    private void share(String text, long upper, long lower) {
        e.leaves("the upper of " + text, () -> Due.bayOf(text), x -> x.odds(0), upper);
        e.leaves("the lower of " + text, () -> Due.bayOf(text), x -> x.odds(1), lower);
    }

    private void odds() {
        e.by(20, "ODDS (which 0 the upper, 1 the lower number).", "Shares are told as upper and lower number (above 0) in least terms.",
            "ODDS: if each CELL that is not CRACKED now is CRACKED or not, all such ways alike: the share by which the BAY is OPEN.");
        share("b022m0m0m0m0", 1, 1);
        share("b022m0m9m0m9", 1, 1);
        share("b022m9m9m9m9", 7, 16);
        share("b022m0m9m9m9", 5, 8);
        share("b022m0m0m0m9", 1, 1);
        share("b022m0m0m9m9", 3, 4);
        // CELL 1 matters to none: 6 of 8 ways.
        share("b023m0m1m0m0m1m1", 3, 4);
        // Two rows: some column is CRACKED in both.
        share("b032m0m1m1m1m1m1", 23, 32);
        share("b023m0m9m0m9m9m9", 5, 8);
        share("b042m9m9m9m9m9m9m9m9", 175, 256);
        share("b043m0m0m0m0m9m9m9m9m0m0m0m0", 15, 16);
        e.is("the lower by SAND, CLAY", Due.bayOf("b922s1c2c3s4").odds(1), 16);
    }

    private void refusalsOfOdds() {
        e.by(20, "LOST: OUTSIDE; STATE: there is no BAY.", "(LOST, where a long is answered, as for refusals)");
        e.is("LOST", DriedMap.LOST, Long.MIN_VALUE);
        for (int which : new int[] {-1, 2, MIN, MAX}) {
            e.refuses("OUTSIDE", "odds(" + which + ")", States::small, x -> x.odds(which));
            e.refuses("OUTSIDE", "odds(" + which + ") without a BAY", States::noBay, x -> x.odds(which));
        }
        e.refuses("STATE", "odds(0)", States::noBay, x -> x.odds(0));
        e.refuses("STATE", "odds(1)", States::noBay, x -> x.odds(1));
    }
}
