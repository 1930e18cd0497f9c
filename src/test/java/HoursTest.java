/** Promises 6 to 10: dry, pour, cracks, way, plan. */
public final class HoursTest {
    private static final Due due = new Due();

    public static void main(String[] args) {
        dry();
        pour();
        cracks();
        pieces();
        way();
        answersOfPlan();
        firstWrong();
        planOpens();
        refusalsOfPlan();
        planChangesNothing();
        due.end();
    }

    private static void dry() {
        DriedMap x = new DriedMap();
        due.is("dry(0), no bay", x.dry(0), Due.OUTSIDE);
        due.is("dry(31), no bay", x.dry(31), Due.OUTSIDE);
        due.is("dry(1), no bay", x.dry(1), Due.STATE);
        Due.take(x, "b222m4s6c2m0");
        due.is("dry(1)", x.dry(1), 0);
        due.is("mud", x.ofCell(0, 1), 2);
        due.is("sand", x.ofCell(1, 1), 3);
        due.is("clay", x.ofCell(2, 1), 1);
        due.is("cracked stays at 0", x.ofCell(3, 1), 0);
        due.is("hour", x.many(3), 1);
        due.is("dry(1)", x.dry(1), 3);
        due.is("set", x.cracks(0), 15);
        due.is("dry(30)", x.dry(30), 0);
        due.is("hour", x.many(3), 32);
        due.is("dry(31)", x.dry(31), Due.OUTSIDE);
        due.is("dry(-1)", x.dry(-1), Due.OUTSIDE);
        due.is("hour", x.many(3), 32);
        Due.take(x, "b022m1s9c1m9");
        due.is("dry(8) without sun", x.dry(8), 0);
        due.is("sand", x.ofCell(1, 1), 1);
        due.is("dry(1)", x.dry(1), 1);
        due.is("mud", x.ofCell(0, 1), 1);
    }

    private static void pour() {
        DriedMap x = new DriedMap();
        due.is("pour(0, 0), no bay", x.pour(0, 0), Due.UNKNOWN);
        Due.take(x, "b222m4s9c0m1");
        due.is("pour(0, 1)", x.pour(0, 1), 5);
        due.is("pour(0, 4)", x.pour(0, 4), 9);
        due.is("pour(0, 9)", x.pour(0, 9), 9);
        due.is("pour(1, 1)", x.pour(1, 1), 9);
        due.is("pour(3, 7)", x.pour(3, 7), 8);
        due.is("wet", x.ofCell(3, 1), 8);
        due.is("pour(2, 10)", x.pour(2, 10), Due.OUTSIDE);
        due.is("pour(2, 0)", x.pour(2, 0), Due.OUTSIDE);
        due.is("pour(2, 1)", x.pour(2, 1), Due.STATE);
        due.is("wet", x.ofCell(2, 1), 0);
        due.is("pour(4, 0)", x.pour(4, 0), Due.UNKNOWN);
        due.is("pour(-1, 1)", x.pour(-1, 1), Due.UNKNOWN);
    }

    private static void cracks() {
        DriedMap x = new DriedMap();
        due.is("cracks(4), no bay", x.cracks(4), Due.OUTSIDE);
        due.is("cracks(-1), no bay", x.cracks(-1), Due.OUTSIDE);
        due.is("cracks(3), no bay", x.cracks(3), Due.STATE);
        // Open only by a way that goes along the middle row.
        Due.take(x, "b143m0m1m1m1m0m0m0m0m1m1m1m0");
        due.is("set", x.cracks(0), 1 + 16 + 32 + 64 + 128 + 2048);
        due.is("open", x.cracks(1), 1);
        Due.take(x, "b143m0m1m1m1m0m0m1m0m1m1m1m0");
        due.is("not open: a gap", x.cracks(1), 0);
        // Cell 2 ends row 0, cell 3 begins row 1: numbers that follow each other are not always beside.
        Due.take(x, "b133m1m1m0m0m1m1m0m1m1");
        due.is("not open: round the edge", x.cracks(1), 0);
        Due.take(x, "b122m0m1m1m0");
        due.is("not open: corners", x.cracks(1), 0);
        Due.take(x, "b122m0m1m0m1");
        due.is("open: a column", x.cracks(1), 1);
        due.is("cracks(4)", x.cracks(4), Due.OUTSIDE);
    }

    private static void pieces() {
        DriedMap x = Due.bayOf("b143m1m1m0m1m0m0m1m0m1m0m1m1");
        due.is("pieces", x.cracks(2), 4);
        due.is("greatest", x.cracks(3), 3);
        Due.take(x, "b122m0m0m0m0");
        due.is("no pieces", x.cracks(2), 0);
        due.is("no greatest", x.cracks(3), 0);
        due.is("all cracked", x.cracks(0), 15);
        Due.take(x, "b143m9m9m9m9m9m9m9m9m9m9m9m9");
        due.is("one piece", x.cracks(2), 1);
        due.is("of all", x.cracks(3), 12);
        due.is("none cracked", x.cracks(0), 0);
        Due.take(x, "b133m1m0m1m0m1m0m1m0m1");
        due.is("a chess board", x.cracks(2), 5);
        due.is("of ones", x.cracks(3), 1);
        Due.take(x, "b133m0m0m1m1m0m0m0m1m1");
        due.is("no piece goes round the edge", x.cracks(2), 3);
        Due.take(x, "b122m1m0m0m0");
        due.is("cell 0 alone", x.cracks(2), 1);
        due.is("it is the greatest", x.cracks(3), 1);
        Due.take(x, "b133m0m0m1m1m0m0m0m1m1");
        due.is("greatest", x.cracks(3), 2);
    }

    private static void way() {
        DriedMap x = new DriedMap();
        due.is("way(0, 0), no bay", x.way(0, 0), Due.UNKNOWN);
        // A snake: 0 1 2 3 / . . . 7 / 8 9 10 11, and no shorter way from 0 to 8.
        Due.take(x, "b143m0m0m0m0m1m1m1m0m0m0m0m0");
        due.is("way(0, 8)", x.way(0, 8), 8);
        due.is("way(8, 0)", x.way(8, 0), 8);
        due.is("way(0, 0)", x.way(0, 0), 0);
        due.is("way(3, 7)", x.way(3, 7), 1);
        due.is("way(4, 4), not cracked", x.way(4, 4), Due.NONE);
        due.is("way(0, 4), not cracked", x.way(0, 4), Due.NONE);
        due.is("way(4, 0), not cracked", x.way(4, 0), Due.NONE);
        due.is("way(12, 0)", x.way(12, 0), Due.UNKNOWN);
        due.is("way(0, 12)", x.way(0, 12), Due.UNKNOWN);
        due.is("way(-1, 0)", x.way(-1, 0), Due.UNKNOWN);
        due.is("way(0, -1)", x.way(0, -1), Due.UNKNOWN);
        Due.take(x, "b133m0m0m0m0m0m0m0m0m0");
        due.is("corner to corner", x.way(0, 8), 4);
        due.is("way(2, 3)", x.way(2, 3), 3);
        Due.take(x, "b122m0m1m1m0");
        due.is("no way", x.way(0, 3), Due.NONE);
    }

    private static void answersOfPlan() {
        DriedMap x = Due.bayOf("b222m4s6c2m5");
        Due.pairs(x, 0, 1, 1, 0, 2, 4, 0, 1);
        // mud 4, 2, 5, 1; sand 6, 3, 0; clay 2, 1, 0; mud 5, 3, 0
        due.fault(x, "set", x.plan(1, 2, 0, 4, 0), 14);
        due.fault(x, "first wrong", x.plan(1, 2, 0, 4, 1), Due.NONE);
        due.fault(x, "open", x.plan(1, 2, 0, 4, 2), 1);
        due.fault(x, "wet of all", x.plan(1, 2, 0, 4, 3), 1);
        due.fault(x, "open first", x.plan(1, 2, 0, 4, 4), 2);
        due.fault(x, "wet of 0", x.plan(1, 2, 0, 4, 10), 1);
        due.fault(x, "wet of 1", x.plan(1, 2, 0, 4, 11), 0);
        due.fault(x, "wet of 4", x.plan(1, 2, 0, 4, 14), Due.NONE);
        due.fault(x, "wet of 11", x.plan(1, 2, 0, 4, 21), Due.NONE);
        due.fault(x, "from 2 on, 1 pair", x.plan(1, 2, 2, 1, 10), 7);
        due.fault(x, "sun alone", x.plan(1, 2, 4, 1, 3), 17);
        due.fault(x, "no pair", x.plan(1, 2, 8, 0, 3), 17);
        due.fault(x, "no pair", x.plan(1, 2, 8, 0, 1), Due.NONE);
        Due.pairs(x, 0, 0, 1, 3, 1, 3);
        due.fault(x, "9 at most", x.plan(1, 2, 0, 3, 13), 9);
        due.fault(x, "no hours", x.plan(1, 2, 0, 3, 10), 4);
        due.fault(x, "not open", x.plan(1, 2, 0, 3, 2), 0);
        Due.pairs(x, 2, 0, 0, 9);
        due.fault(x, "without sun sand alone dries", x.plan(1, 2, 0, 2, 0), 2);
        Due.pairs(x, 2, 9, 0, 1);
        due.fault(x, "the strongest sun", x.plan(1, 2, 0, 2, 0), 15);
        for (int lane = 0; lane <= 1; lane++) {
            x.sheet(1, lane, 2);
            x.put(1, 1, 9);
            due.fault(x, "nine hours in lane " + lane, x.plan(1, lane, 0, 1, 0), 15);
        }
        Due.take(x, "b143m9m9m9m9m9m9m9m9m9m9m9m5");
        Due.pairs(x, new int[40]);
        due.fault(x, "20 pairs", x.plan(1, 2, 0, 20, 21), 5);
    }

    private static void firstWrong() {
        DriedMap x = Due.bayOf("b222m4s6c2m0");
        Due.pairs(x, 1, 0, 0, 2, 1, 1, 1, 3, 0, 3);
        int[] whats = {0, 2, 3, 4, 10, 14, 21};
        for (int what : whats) {
            due.fault(x, "what " + what, x.plan(1, 2, 0, 5, what), -102);
            due.fault(x, "what " + what, x.plan(1, 2, 6, 1, what), -100);
        }
        due.fault(x, "first wrong", x.plan(1, 2, 0, 5, 1), 2);
        due.fault(x, "first wrong", x.plan(1, 2, 6, 1, 1), 0);
        due.fault(x, "ahead of it", x.plan(1, 2, 0, 2, 1), Due.NONE);
        due.fault(x, "ahead of it", x.plan(1, 2, 0, 2, 0), 14);
    }

    private static void planOpens() {
        DriedMap x = Due.bayOf("b122m3m9m3m9");
        Due.pairs(x, 0, 2, 1, 1, 0, 0, 0, 9);
        due.is("behind three", x.plan(1, 2, 0, 4, 4), 3);
        due.is("not in two", x.plan(1, 2, 0, 3, 4), Due.NONE);
        Due.pairs(x, 0, 9, 0, 9, 1, 0);
        due.is("not asked of one with a wrong act", x.plan(1, 2, 0, 3, 4), -102);
        Due.take(x, "b122m0m9m0m9");
        Due.pairs(x, 0, 9);
        due.is("ahead of it", x.plan(1, 2, 0, 1, 4), 0);
        due.is("ahead of it, no pair", x.plan(1, 2, 0, 0, 4), 0);
        Due.take(x, "b022m1m1m1m1");
        Due.pairs(x, 0, 9, 2, 1, 0, 1);
        due.is("behind ten", x.plan(1, 2, 0, 3, 4), 10);
        Due.take(x, "b122m1m9m0m9");
        due.is("not OPEN at once", x.plan(1, 2, 0, 0, 4), Due.NONE);
    }

    private static void refusalsOfPlan() {
        DriedMap x = new DriedMap();
        due.fault(x, "no sheet", x.plan(4, 9, 0, 99, 99), Due.UNKNOWN);
        due.fault(x, "no sheet", x.plan(-1, 0, 0, 0, 0), Due.UNKNOWN);
        due.fault(x, "lane", x.plan(0, 3, 0, 0, 0), Due.OUTSIDE);
        due.fault(x, "lane", x.plan(0, -1, 0, 0, 0), Due.OUTSIDE);
        due.fault(x, "n", x.plan(0, 0, 0, 21, 0), Due.OUTSIDE);
        due.fault(x, "n", x.plan(0, 0, 0, -1, 0), Due.OUTSIDE);
        int[] whats = {-1, 5, 9, 22, Integer.MIN_VALUE, Integer.MAX_VALUE};
        for (int what : whats) {
            due.fault(x, "what " + what, x.plan(0, 0, 0, 0, what), Due.OUTSIDE);
        }
        due.fault(x, "nothing", x.plan(0, 0, -1, 0, 0), Due.NULL);
        x.sheet(0, 1, 3);
        x.put(0, 0, 7);
        due.fault(x, "CAST ahead of INDEX", x.plan(0, 0, -1, 0, 0), Due.CAST);
        due.fault(x, "INDEX: i below 0", x.plan(0, 1, -1, 0, 0), Due.INDEX);
        due.fault(x, "INDEX: i beyond", x.plan(0, 1, 4, 0, 0), Due.INDEX);
        due.fault(x, "INDEX: half a pair", x.plan(0, 1, 2, 1, 0), Due.INDEX);
        due.fault(x, "INDEX: two pairs", x.plan(0, 1, 0, 2, 0), Due.INDEX);
        due.fault(x, "INDEX: greatest", x.plan(0, 1, Integer.MAX_VALUE, 20, 0), Due.INDEX);
        due.fault(x, "no bay, ahead of the pairs", x.plan(0, 1, 0, 1, 0), Due.STATE);
        Due.take(x, "b222m4s6c2m0");
        int[][] bad = {{3, 0}, {-1, 0}, {0, 10}, {0, -1}, {2, 10}, {2, -1}, {1, 4}, {1, -1}, {3, 99}};
        for (int[] pair : bad) {
            Due.pairs(x, 0, 9, pair[0], pair[1]);
            String call = "pair " + pair[0] + " " + pair[1];
            due.fault(x, call, x.plan(1, 2, 0, 2, 1), pair[0] == 1 ? Due.UNKNOWN : Due.OUTSIDE);
        }
        Due.pairs(x, 1, 9, 5, 5);
        due.fault(x, "the first of two bad pairs", x.plan(1, 2, 0, 2, 0), Due.UNKNOWN);
        Due.pairs(x, 1, 3, 5, 5);
        due.fault(x, "refused, though an act ahead can't be", x.plan(1, 2, 0, 2, 0), Due.OUTSIDE);
    }

    private static void planChangesNothing() {
        DriedMap x = Due.bayOf("b222m4s6c2m5");
        Due.pairs(x, 0, 1, 1, 0, 2, 9, 0, 9);
        x.plan(1, 2, 0, 4, 0);
        due.is("wet of 0", x.ofCell(0, 1), 4);
        due.is("wet of 3", x.ofCell(3, 1), 5);
        due.is("sun", x.many(2), 2);
        due.is("hour", x.many(3), 0);
        due.is("set", x.cracks(0), 0);
    }
}
