import java.util.Arrays;

/** Edges of promise 10: plan. */
final class PlanEdges {
    private static final int MIN = Integer.MIN_VALUE, MAX = Integer.MAX_VALUE;
    private static final String BAY = "b222m4s6c2m0";

    private final Edges e;

    PlanEdges(Edges e) {
        this.e = e;
    }

    void all() {
        refusals();
        faults();
        cellsThatAreThere();
        noBay();
        pairsThatAreNone();
        onlyItsPairsAreLookedAt();
        acts();
        firstWrong();
        answers();
        opened();
        openRoundTheEdge();
        wetOfCells();
        plansBehindEachOther();
    }

    private static DriedMap planned() {
        return States.planned(BAY, 0, 1, 1, 0, 2, 9);
    }

    private void refusals() {
        e.by(10, "UNKNOWN: SHEET;");
        for (int sheet : new int[] {-1, 4, MIN, MAX}) {
            e.refuses("UNKNOWN", "plan(" + sheet + ", 2, 0, 3, 0)", PlanEdges::planned, x -> x.plan(sheet, 2, 0, 3, 0));
            e.refuses("UNKNOWN", "plan(" + sheet + ", 3, -1, 21, 5): ahead of OUTSIDE", PlanEdges::planned, x -> x.plan(sheet, 3, -1, 21, 5));
        }
        e.by(10, "OUTSIDE: lane, n (0 .. 20), what (0 .. 4, 10 .. 21);");
        for (int lane : new int[] {-1, 3, MIN, MAX}) {
            e.refuses("OUTSIDE", "plan(1, " + lane + ", 0, 3, 0)", PlanEdges::planned, x -> x.plan(1, lane, 0, 3, 0));
            e.refuses("OUTSIDE", "plan(2, " + lane + ", 0, 3, 0): ahead of NULL", PlanEdges::planned, x -> x.plan(2, lane, 0, 3, 0));
        }
        for (int n : new int[] {-1, 21, MIN, MAX, 1 << 30, 1 << 31}) {
            e.refuses("OUTSIDE", "plan(1, 2, 0, " + n + ", 0)", PlanEdges::planned, x -> x.plan(1, 2, 0, n, 0));
            e.refuses("OUTSIDE", "plan(1, 1, 0, " + n + ", 0): ahead of CAST", PlanEdges::planned, x -> x.plan(1, 1, 0, n, 0));
            e.refuses("OUTSIDE", "plan(2, 2, 0, " + n + ", 0): ahead of NULL", PlanEdges::planned, x -> x.plan(2, 2, 0, n, 0));
            e.refuses("OUTSIDE", "plan(1, 2, -1, " + n + ", 0): ahead of INDEX", PlanEdges::planned, x -> x.plan(1, 2, -1, n, 0));
        }
        for (int what : new int[] {-1, 5, 6, 7, 8, 9, 22, MIN, MAX}) {
            e.refuses("OUTSIDE", "plan(1, 2, 0, 3, " + what + ")", PlanEdges::planned, x -> x.plan(1, 2, 0, 3, what));
            e.refuses("OUTSIDE", "plan(2, 2, 0, 3, " + what + "): ahead of NULL", PlanEdges::planned, x -> x.plan(2, 2, 0, 3, what));
            e.refuses("OUTSIDE", "plan(1, 0, -1, 0, " + what + "): ahead of CAST, INDEX", PlanEdges::planned, x -> x.plan(1, 0, -1, 0, what));
            e.refuses("OUTSIDE", "plan(1, 1, 0, 1, " + what + ") without a BAY: ahead of STATE", States::noBay, x -> x.plan(1, 1, 0, 1, what));
        }
    }

    private void faults() {
        e.by(10, "FAULTS CAST, NULL, INDEX;", "FAULTS are the machine's:", "Of a call the first that is come to,");
        for (int[] of : new int[][] {{1, 0}, {1, 1}, {0, 1}, {0, 2}}) {
            String head = "plan(" + of[0] + ", " + of[1];
            e.refuses("CAST", head + ", 0, 1, 0)", PlanEdges::planned, x -> x.plan(of[0], of[1], 0, 1, 0));
            e.refuses("CAST", head + ", 0, 0, 0): no pair", PlanEdges::planned, x -> x.plan(of[0], of[1], 0, 0, 0));
            e.refuses("CAST", head + ", -1, 20, 0): ahead of INDEX", PlanEdges::planned, x -> x.plan(of[0], of[1], -1, 20, 0));
        }
        e.refuses("CAST", "plan(1, 0, 0, 1, 0) without a BAY: ahead of STATE", States::noBay, x -> x.plan(1, 0, 0, 1, 0));
        for (int lane = 0; lane <= 2; lane++) {
            int as = lane;
            e.refuses("NULL", "plan(2, " + as + ", 0, 0, 0)", PlanEdges::planned, x -> x.plan(2, as, 0, 0, 0));
            e.refuses("NULL", "plan(2, " + as + ", -1, 20, 21): ahead of INDEX", PlanEdges::planned, x -> x.plan(2, as, -1, 20, 21));
            e.refuses("NULL", "plan(2, " + as + ", 0, 0, 0) without a BAY: ahead of STATE", States::noBay, x -> x.plan(2, as, 0, 0, 0));
        }
        int[][] beyond = {{-1, 0}, {-1, 3}, {-2, 1}, {7, 0}, {5, 1}, {6, 1}, {1, 3}, {0, 4}, {0, 20}, {MIN, 0}, {MIN, 20}, {MAX, 0},
            {MAX, 20}, {MAX - 39, 20}};
        for (int[] of : beyond) {
            e.refuses("INDEX", "plan(1, 2, " + of[0] + ", " + of[1] + ", 0)", PlanEdges::planned, x -> x.plan(1, 2, of[0], of[1], 0));
        }
        e.refuses("INDEX", "plan(1, 1, 4, 0, 0) without a BAY: ahead of STATE", States::noBay, x -> x.plan(1, 1, 4, 0, 0));
        e.refuses("INDEX", "ahead of a pair that is none", () -> States.planned(BAY, 9, 9, 0), x -> x.plan(1, 2, 0, 2, 0));
    }

    private void cellsThatAreThere() {
        e.by(10, "A PLAN of n pairs, that are cells of a SHEET from i on (2 n):");
        e.leaves("no pair, from 0", PlanEdges::planned, x -> x.plan(1, 2, 0, 0, 0), 8);
        e.leaves("no pair, from the place behind the last", PlanEdges::planned, x -> x.plan(1, 2, 6, 0, 0), 8);
        e.leaves("no pair of an empty row", () -> States.planned(BAY), x -> x.plan(1, 2, 0, 0, 3), 12);
        e.refuses("INDEX", "no pair from 1 of an empty row", () -> States.planned(BAY), x -> x.plan(1, 2, 1, 0, 3));
        e.leaves("the last pair of three", PlanEdges::planned, x -> x.plan(1, 2, 4, 1, 3), 12);
        e.leaves("an odd place: 1 and 1", PlanEdges::planned, x -> x.plan(1, 2, 1, 1, 11), 9);
        int[] full = new int[60];
        Arrays.fill(full, 20, 60, 2);
        e.leaves("20 pairs at the end of a full row", () -> States.planned(BAY, full), x -> x.plan(1, 2, 20, 20, 3), 12);
        e.refuses("INDEX", "20 pairs one beyond it", () -> States.planned(BAY, full), x -> x.plan(1, 2, 21, 20, 3));
        e.leaves("20 pairs in 40", () -> States.planned(BAY, new int[40]), x -> x.plan(1, 2, 0, 20, 3), 12);
        e.refuses("INDEX", "20 pairs in 39", () -> States.planned(BAY, new int[39]), x -> x.plan(1, 2, 0, 20, 3));
        for (int lane = 0; lane <= 2; lane++) {
            int as = lane;
            e.leaves("as lane " + as, () -> States.fill(Due.bayOf(BAY), 1, as, 0, 1), x -> x.plan(1, as, 0, 1, 10), 2);
        }
        e.leaves("numbers that are cut to bytes", () -> States.fill(Due.bayOf(BAY), 1, 0, 256, 257), x -> x.plan(1, 0, 0, 1, 10), 2);
        e.refuses("OUTSIDE", "they are not cut to ints", () -> States.fill(Due.bayOf(BAY), 1, 2, 256, 257), x -> x.plan(1, 2, 0, 1, 10));
    }

    private void noBay() {
        e.by(10, "STATE: there is no BAY;");
        for (int what : new int[] {0, 1, 4, 10, 21}) {
            e.refuses("STATE", "plan(1, 1, 0, 1, " + what + "): ahead of a pair that is none", States::noBay, x -> x.plan(1, 1, 0, 1, what));
            e.refuses("STATE", "plan(1, 1, 3, 0, " + what + ")", States::noBay, x -> x.plan(1, 1, 3, 0, what));
        }
    }

    private void pairsThatAreNone() {
        e.by(10, "pair by pair OUTSIDE: the first is none of 0 .. 2, the second is not as told (of 0, 2); UNKNOWN: it is no CELL (of 1).");
        int[][] outside = {{-1, 0}, {3, 0}, {MIN, 0}, {MAX, 0}, {256, 0}, {-1, -1}, {3, 99}, {0, -1}, {0, 10}, {0, MIN}, {0, MAX},
            {0, 256}, {2, -1}, {2, 10}, {2, MIN}, {2, MAX}, {2, 256}};
        int[][] unknown = {{1, -1}, {1, 4}, {1, 12}, {1, MIN}, {1, MAX}, {1, 256}};
        for (int what : new int[] {0, 1, 2, 3, 4, 10, 21}) {
            for (int[] pair : outside) {
                bad("OUTSIDE", pair, what);
            }
            for (int[] pair : unknown) {
                bad("UNKNOWN", pair, what);
            }
        }
        e.refuses("UNKNOWN", "the first of two that are none", () -> States.planned(BAY, 1, 4, 3, 0), x -> x.plan(1, 2, 0, 2, 0));
        e.refuses("OUTSIDE", "the first of two that are none", () -> States.planned(BAY, 3, 0, 1, 4), x -> x.plan(1, 2, 0, 2, 0));
        e.refuses("OUTSIDE", "behind an act that can't be", () -> States.planned(BAY, 1, 3, 3, 0), x -> x.plan(1, 2, 0, 2, 1));
        e.refuses("UNKNOWN", "behind an act that can't be", () -> States.planned(BAY, 1, 3, 1, 4), x -> x.plan(1, 2, 0, 2, 1));
        int[] last = new int[40];
        last[38] = 1;
        last[39] = 4;
        e.refuses("UNKNOWN", "the last of 20", () -> States.planned(BAY, last), x -> x.plan(1, 2, 0, 20, 0));
        e.leaves("1 and 11 of 12 CELLS", () -> States.planned("b143" + "m1".repeat(12), 1, 11), x -> x.plan(1, 2, 0, 1, 21), 4);
        e.refuses("UNKNOWN", "1 and 12 of 12 CELLS", () -> States.planned("b143" + "m1".repeat(12), 1, 12), x -> x.plan(1, 2, 0, 1, 21));
    }

    private void bad(String refusal, int[] pair, int what) {
        String call = "the pair " + pair[0] + ", " + pair[1] + ", what " + what;
        e.refuses(refusal, call, () -> States.planned(BAY, pair), x -> x.plan(1, 2, 0, 1, what));
        e.refuses(refusal, call + ", behind a good one", () -> States.planned(BAY, 0, 9, pair[0], pair[1]), x -> x.plan(1, 2, 0, 2, what));
    }

    private void onlyItsPairsAreLookedAt() {
        e.by(10, "a row of pairs, one behind another,");
        e.leaves("one that is none ahead of them", () -> States.planned(BAY, 9, 9, 0, 1, 9, 9), x -> x.plan(1, 2, 2, 1, 10), 2);
        e.leaves("acts are done in their order", () -> States.planned(BAY, 2, 4, 0, 1), x -> x.plan(1, 2, 0, 2, 3), 1);
        e.leaves("acts in another order", () -> States.planned(BAY, 0, 1, 2, 4), x -> x.plan(1, 2, 0, 2, 3), 6);
        e.leaves("SUN behind the HOURS", () -> States.planned(BAY, 0, 1, 2, 0), x -> x.plan(1, 2, 0, 2, 10), 2);
        e.leaves("SUN ahead of the HOURS", () -> States.planned(BAY, 2, 0, 0, 1), x -> x.plan(1, 2, 0, 2, 10), 4);
    }

    private void acts() {
        e.by(10, "A PLAN told:", "from how all is now (nothing is changed): 0 and n: n HOURS (0 .. 9); 1 and a CELL: it is POURED on by 3; 2 and v: SUN becomes v (0 .. 9).");
        act("no HOUR", 4, 10, 0, 0);
        act("one HOUR", 2, 10, 0, 1);
        act("nine HOURS", 0, 10, 0, 9);
        act("nine HOURS without SUN", 4, 10, 2, 0, 0, 9);
        act("eight HOURS of CLAY by 1", 1, 12, 1, 2, 1, 2, 1, 2, 0, 8);
        act("nine HOURS of CLAY by 1", 0, 12, 1, 2, 1, 2, 1, 2, 0, 9);
        act("the strongest SUN", 0, 10, 2, 9, 0, 1);
        act("3 more", 7, 10, 1, 0);
        act("9, from 6", 9, 11, 1, 1);
        act("9 at most, from 7", 9, 10, 1, 0, 1, 0);
        act("9 at most, from 9", 9, 11, 1, 1, 1, 1);
    }

    private void act(String what, int want, int asked, int... pairs) {
        e.leaves(what, () -> States.planned(BAY, pairs), x -> x.plan(1, 2, 0, pairs.length / 2, asked), want);
    }

    private void firstWrong() {
        e.by(10, "its FIRST WRONG (1; NONE),", "FIRST WRONG: the first act that can't be.", "of one with a FIRST WRONG: -100 less that (but what 1).");
        act("none of three", Due.NONE, 1, 0, 1, 1, 0, 2, 9);
        act("no act at all", Due.NONE, 1);
        act("the first act: a CELL that is CRACKED", 0, 1, 1, 3);
        act("a CELL that is CRACKED by then", 1, 1, 0, 2, 1, 2);
        act("a CELL that is just not CRACKED by then", Due.NONE, 1, 0, 1, 1, 2);
        act("the first of two", 1, 1, 0, 2, 1, 2, 1, 3);
        int[] late = new int[40];
        late[38] = 1;
        late[39] = 3;
        e.leaves("the last of 20", () -> States.planned(BAY, late), x -> x.plan(1, 2, 0, 20, 1), 19);
        e.leaves("19 of them", () -> States.planned(BAY, late), x -> x.plan(1, 2, 0, 19, 1), Due.NONE);
        for (int what : new int[] {0, 2, 3, 4, 10, 13, 14, 21}) {
            act("what " + what + " of one whose first can't be", -100, what, 1, 3, 0, 9);
            act("what " + what + " of one whose second can't be", -101, what, 0, 9, 1, 0);
            e.leaves("what " + what + " of one whose last can't be", () -> States.planned(BAY, late), x -> x.plan(1, 2, 0, 20, what), -119);
        }
    }

    private void answers() {
        e.by(10, "CRACKED ones then, as a set (what 0),", "whether it is OPEN then (2; 1, 0), WET of all together then (3),");
        act("CRACKED behind 1", 8, 0, 0, 1);
        act("CRACKED behind 2", 15, 0, 0, 2);
        act("OPEN behind 1", 0, 2, 0, 1);
        act("OPEN behind 2", 1, 2, 0, 2);
        act("WET of all now", 12, 3);
        act("WET of all behind 1", 6, 3, 0, 1);
        act("WET of all behind 2", 0, 3, 0, 2);
        String wettest = "b943" + "m9".repeat(12);
        e.leaves("WET of all, the most", () -> States.planned(wettest, 1, 0), x -> x.plan(1, 2, 0, 1, 3), 108);
        e.leaves("all of 12 CRACKED", () -> States.planned(wettest, 0, 1), x -> x.plan(1, 2, 0, 1, 0), 4095);
        e.leaves("none of 12 CRACKED", () -> States.planned(wettest, 0, 0), x -> x.plan(1, 2, 0, 1, 0), 0);
    }

    private void opened() {
        e.by(10, "behind how many HOURS of it it is OPEN first (4; 0: it is OPEN ahead of it; NONE: not in it),");
        act("not in it: no act", Due.NONE, 4);
        act("not in it: one HOUR", Due.NONE, 4, 0, 1);
        act("at its last HOUR", 2, 4, 0, 2);
        act("HOURS of several acts, within the last", 2, 4, 0, 1, 2, 9, 0, 9);
        act("acts that are no HOURS are not counted", 2, 4, 2, 2, 0, 1, 0, 0, 2, 2, 0, 1);
        act("poured on, later", 3, 4, 1, 0, 1, 1, 0, 9);
        String open = "b122m0m9m0m9", never = "b022m1m1m1m1";
        e.leaves("OPEN ahead of it", () -> States.planned(open, 0, 9), x -> x.plan(1, 2, 0, 1, 4), 0);
        e.leaves("OPEN ahead of it, no act", () -> States.planned(open), x -> x.plan(1, 2, 0, 0, 4), 0);
        int[] late = new int[40];
        for (int k = 0; k < 18; k++) {
            late[2 * k + 1] = 9;
        }
        late[36] = 2;
        late[37] = 1;
        late[39] = 1;
        e.leaves("behind 18 times 9, and 1", () -> States.planned(never, late), x -> x.plan(1, 2, 0, 20, 4), 163);
        e.leaves("not in the first 19 acts", () -> States.planned(never, late), x -> x.plan(1, 2, 0, 19, 4), Due.NONE);
    }

    private void openRoundTheEdge() {
        e.by(10, "whether it is OPEN then (2; 1, 0),");
        String ends = "b132m9m9m1m1m9m9", firsts = "b133m9m9m1m9m9m1m1m9m9";
        for (String text : new String[] {ends, firsts}) {
            e.leaves("the end of a row, the next one's first: " + text, () -> States.planned(text, 0, 1), x -> x.plan(1, 2, 0, 1, 2), 0);
            e.leaves("nor behind any HOUR of it: " + text, () -> States.planned(text, 0, 8), x -> x.plan(1, 2, 0, 1, 4), Due.NONE);
            e.leaves("but by its own column: " + text, () -> States.planned(text, 0, 9), x -> x.plan(1, 2, 0, 1, 4), 9);
        }
    }

    private void wetOfCells() {
        e.by(10, "WET of CELL c then (10 and c; NONE: there is no such one);");
        int[] wets = {2, 3, 1, 0};
        for (int c = 0; c < 12; c++) {
            act("WET of CELL " + c, c < 4 ? wets[c] : Due.NONE, 10 + c, 0, 1);
        }
        for (String shape : States.SHAPES) {
            int cells = (shape.length() - 4) / 2;
            for (int c = 0; c < 12; c++) {
                int asked = 10 + c;
                int want = c < cells ? shape.charAt(5 + 2 * c) - '0' : Due.NONE;
                e.leaves("CELL " + c + " of " + shape, () -> States.planned(shape), x -> x.plan(1, 2, 0, 0, asked), want);
            }
        }
    }

    /** What one plan tried is nothing to the next one, nor to what READINGS are looked at by. */
    private void plansBehindEachOther() {
        e.by(10, "from how all is now (nothing is changed):");
        DriedMap x = States.planned(BAY, 0, 2, 1, 0, 0, 1);
        x.back(1);
        x.reading(0, 2, 1);
        for (int k = 0; k < 3; k++) {
            e.is(x, "one that is OPEN behind 2", x.plan(1, 2, 0, 1, 4), 2);
            e.is(x, "one whose second act can't be", x.plan(1, 2, 0, 3, 0), -101);
            e.is(x, "its FIRST WRONG", x.plan(1, 2, 0, 3, 1), 1);
            e.is(x, "one HOUR alone", x.plan(1, 2, 4, 1, 3), 6);
            e.is(x, "one HOUR alone has no FIRST WRONG", x.plan(1, 2, 4, 1, 1), Due.NONE);
            e.is(x, "one HOUR alone is not OPEN", x.plan(1, 2, 4, 1, 4), Due.NONE);
            e.is("wets(0)", x.wets(0), 31);
            e.is("kinds(0)", x.kinds(0), 3);
            e.is("suns()", x.suns(), 1020);
        }
        e.is("another BAY", Due.take(x, "b132m9m9m1m1m9m9"), 6);
        e.is(x, "a PLAN of the other BAY", x.plan(1, 2, 0, 1, 3), 28);
        e.is("back to the first one", Due.take(x, BAY), 4);
        e.is(x, "a PLAN of the first one", x.plan(1, 2, 0, 1, 0), 15);
    }
}
