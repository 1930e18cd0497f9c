/** Promises 1 to 5: a new object, bay, ofCell, shine, silt. */
public final class BayTest {
    private static final Due due = new Due();

    public static void main(String[] args) {
        newObject();
        textsThatAreTaken();
        firstFaults();
        faultsOfBay();
        allIsMadeAnew();
        textsThatAreNotTakenChangeNothing();
        ofCell();
        pieceOfCell();
        shine();
        silt();
        due.end();
    }

    private static void newObject() {
        DriedMap x = new DriedMap();
        for (int what = 0; what <= 5; what++) {
            due.is("new: many(" + what + ")", x.many(what), 0);
        }
        for (int k = 0; k <= 3; k++) {
            due.is("new: lose(" + k + ")", x.lose(k), 0);
        }
        due.is("new: ofCell(0, 0)", x.ofCell(0, 0), Due.UNKNOWN);
        due.is("new: trace()", x.trace(), 0);
        due.is("new: fault()", x.fault(), 0);
        due.is("new: cracks(0)", x.cracks(0), Due.STATE);
    }

    private static void textsThatAreTaken() {
        DriedMap x = new DriedMap();
        due.is("2 by 2", Due.take(x, "b022m0s9c5m1"), 4);
        due.is("wide", x.many(0), 2);
        due.is("long", x.many(1), 2);
        due.is("sun", x.many(2), 0);
        due.is("4 by 3", Due.take(x, "b943m0s1c2m3s4c5m6s7c8m9s0c1"), 12);
        due.is("wide", x.many(0), 4);
        due.is("long", x.many(1), 3);
        due.is("sun", x.many(2), 9);
        due.is("kind of cell 11", x.ofCell(11, 0), 2);
        due.is("wet of cell 9", x.ofCell(9, 1), 9);
        due.is("2 by 3", Due.take(x, "b523m1m2m3m4m5m6"), 6);
        due.is("3 by 2", Due.take(x, "b532m1m2m3m4m5m6"), 6);
        due.is("4 by 2", Due.take(x, "b542m1m2m3m4m5m6m7m8"), 8);
        due.is("3 by 3", Due.take(x, "b533m1m2m3m4m5m6m7m8m9"), 9);
        for (int lane = 0; lane <= 2; lane++) {
            x.sheet(2, lane, 20);
            String text = "b122m1s2c3m4";
            for (int i = 0; i < text.length(); i++) {
                x.put(2, 5 + i, text.charAt(i));
            }
            due.fault(x, "from 5 on in lane " + lane, x.bay(2, lane, 5, 12), 4);
            due.is("wet of cell 2", x.ofCell(2, 1), 3);
        }
    }

    private static void firstFaults() {
        String[] texts = {"", "x", "B", "b", "bm", "b/", "b:", "b1", "b11", "b15", "b12", "b121", "b124", "b122",
            "b122n", "b1220", "b122m", "b122mm", "b122m:", "b122m1", "b122m1s2c3m", "b122m1s2c3", "b122m1s2c3m4b",
            "b122m1s2c3m4m", "b123m1s2c3m4", "b143m0s1c2m3s4c5m6s7c8m9s0c", "b143m0s1c2m3s4c5m6s7c8m9s0c12", "122m1s2c3m4",
            "b122m1M2c3m4"};
        int[] places = {0, 0, 0, 1, 1, 1, 1, 2, 2, 2, 3, 3, 3, 4,
            4, 4, 5, 5, 5, 6, 11, 10, 12,
            12, 12, 27, 28, 0,
            6};
        DriedMap x = new DriedMap();
        for (int t = 0; t < texts.length; t++) {
            due.fault(x, "bay of " + texts[t], Due.take(x, texts[t]), -100 - places[t]);
        }
        x.sheet(1, 2, 12);
        x.put(1, 0, 98 + 256);
        due.is("a code is not cut in ints", x.bay(1, 2, 0, 12), -100);
        x.sheet(1, 0, 12);
        x.put(1, 0, 98 + 256);
        due.is("a code is cut in bytes", x.bay(1, 0, 0, 12), -101);
        Due.write(x, 3, "xxb1");
        due.is("the place is counted from i on", x.bay(3, 0, 2, 2), -102);
    }

    private static void faultsOfBay() {
        DriedMap x = new DriedMap();
        due.fault(x, "no sheet 4", x.bay(4, 9, 0, -1), Due.UNKNOWN);
        due.fault(x, "no sheet -1", x.bay(-1, 0, 0, 0), Due.UNKNOWN);
        due.fault(x, "no lane 3", x.bay(0, 3, 0, -1), Due.OUTSIDE);
        due.fault(x, "no lane -1", x.bay(0, -1, 0, -1), Due.OUTSIDE);
        due.fault(x, "nothing is no CAST", x.bay(0, 1, 0, -1), Due.NULL);
        Due.write(x, 0, "b122m1s2c3m4");
        due.fault(x, "CAST ahead of SIZE", x.bay(0, 1, 0, -1), Due.CAST);
        due.fault(x, "SIZE ahead of INDEX", x.bay(0, 0, -1, -1), Due.SIZE);
        due.fault(x, "INDEX: i below 0", x.bay(0, 0, -1, 12), Due.INDEX);
        due.fault(x, "INDEX: beyond", x.bay(0, 0, 1, 12), Due.INDEX);
        due.fault(x, "INDEX: n too great", x.bay(0, 0, 0, 13), Due.INDEX);
        due.fault(x, "INDEX: none taken, i beyond", x.bay(0, 0, 13, 0), Due.INDEX);
        due.fault(x, "INDEX: none taken, i below 0", x.bay(0, 0, -1, 0), Due.INDEX);
        due.fault(x, "none taken, i at the end", x.bay(0, 0, 12, 0), -100);
        due.fault(x, "greatest numbers", x.bay(0, 0, Integer.MAX_VALUE, Integer.MAX_VALUE), Due.INDEX);
        due.fault(x, "greatest n", x.bay(0, 0, 1, Integer.MAX_VALUE), Due.INDEX);
        due.fault(x, "least i", x.bay(0, 0, Integer.MIN_VALUE, 1), Due.INDEX);
        due.is("no bay by now", x.many(0), 0);
        due.fault(x, "all of it", x.bay(0, 0, 0, 12), 4);
    }

    private static void allIsMadeAnew() {
        DriedMap x = Due.bayOf("b543m9m9m9m9m9m9m9m9m9m9m9m9");
        x.dry(1);
        x.reading(3, 4, 1);
        x.tell(0);
        x.put(0, 0, 'b');
        due.is("hour", x.many(3), 1);
        due.is("readings", x.many(5), 1);
        due.is("anew", Due.take(x, "b222m1s0c3m4"), 4);
        due.is("hour", x.many(3), 0);
        due.is("readings", x.many(5), 0);
        due.is("cracked", x.many(4), 1);
        due.is("cells that are no more", x.ofCell(4, 0), Due.UNKNOWN);
        due.is("sheets stay", x.cell(0, 0, 0), 'b');
        due.is("the trace stays", x.trace(), 1);
    }

    private static void textsThatAreNotTakenChangeNothing() {
        DriedMap x = Due.bayOf("b322m1s2c3m4");
        x.dry(1);
        x.reading(0, 1, 1);
        due.is("a bad text", Due.take(x, "b943m9s9x"), -108);
        due.is("wide", x.many(0), 2);
        due.is("sun", x.many(2), 3);
        due.is("hour", x.many(3), 1);
        due.is("readings", x.many(5), 1);
        due.is("wet", x.ofCell(3, 1), 1);
    }

    private static void ofCell() {
        DriedMap x = Due.bayOf("b722m4s0c9m0");
        int[][] want = {{0, 4, 7, 0, 1}, {1, 0, 8, 1, 0}, {2, 9, 3, 0, 2}, {0, 0, 7, 1, 0}};
        want[0][4] = 2;
        for (int c = 0; c < 4; c++) {
            for (int what = 0; what <= 4; what++) {
                due.is("ofCell(" + c + ", " + what + ")", x.ofCell(c, what), want[c][what]);
            }
            due.is("what 5", x.ofCell(c, 5), Due.OUTSIDE);
            due.is("what -1", x.ofCell(c, -1), Due.OUTSIDE);
        }
        due.is("no cell 4", x.ofCell(4, 9), Due.UNKNOWN);
        due.is("no cell -1", x.ofCell(-1, 0), Due.UNKNOWN);
        due.is("no cell 32", x.ofCell(32, 0), Due.UNKNOWN);
        x.shine(0);
        due.is("mud loses nothing", x.ofCell(0, 2), 0);
        due.is("sand loses 1", x.ofCell(1, 2), 1);
        due.is("clay loses nothing", x.ofCell(2, 2), 0);
        x.shine(1);
        due.is("half of 1 is cut", x.ofCell(2, 2), 0);
    }

    private static void pieceOfCell() {
        // wet:  1 1 0 1
        //       0 0 1 0
        //       1 0 1 1
        DriedMap x = Due.bayOf("b143m1m1m0m1m0m0m1m0m1m0m1m1");
        int[] sizes = {2, 2, 0, 1, 0, 0, 3, 0, 1, 0, 3, 3};
        for (int c = 0; c < 12; c++) {
            due.is("piece of " + c, x.ofCell(c, 4), sizes[c]);
        }
    }

    private static void shine() {
        DriedMap x = new DriedMap();
        due.is("shine(10), no bay", x.shine(10), Due.OUTSIDE);
        due.is("shine(-1), no bay", x.shine(-1), Due.OUTSIDE);
        due.is("shine(9), no bay", x.shine(9), Due.STATE);
        due.is("no sun without a bay", x.many(2), 0);
        Due.take(x, "b322m1s2c3m4");
        due.is("shine(9)", x.shine(9), 3);
        due.is("shine(10)", x.shine(10), Due.OUTSIDE);
        due.is("shine(0)", x.shine(0), 9);
        due.is("shine(0)", x.shine(0), 0);
        due.is("sun", x.many(2), 0);
    }

    private static void silt() {
        DriedMap x = new DriedMap();
        due.is("silt(0, 9), no bay", x.silt(0, 9), Due.UNKNOWN);
        Due.take(x, "b322m1s2c3m4");
        due.is("silt(0, 2)", x.silt(0, 2), 0);
        due.is("silt(0, 3)", x.silt(0, 3), Due.OUTSIDE);
        due.is("silt(0, -1)", x.silt(0, -1), Due.OUTSIDE);
        due.is("silt(4, 0)", x.silt(4, 0), Due.UNKNOWN);
        due.is("silt(-1, 0)", x.silt(-1, 0), Due.UNKNOWN);
        due.is("kind", x.ofCell(0, 0), 2);
        due.is("wet stays", x.ofCell(0, 1), 1);
        due.is("loses", x.ofCell(0, 2), 1);
        due.is("silt(0, 1)", x.silt(0, 1), 2);
        due.is("loses", x.ofCell(0, 2), 4);
        due.is("silt(1, 1)", x.silt(1, 1), 1);
        due.is("silt(2, 0)", x.silt(2, 0), 2);
        due.is("loses", x.ofCell(2, 2), 3);
    }
}
