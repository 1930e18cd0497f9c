/** Promises 11 to 14: when, opens, bars, dates. */
public final class ToComeTest {
    private static final Due due = new Due();

    public static void main(String[] args) {
        when();
        opens();
        bars();
        dates();
        nothingIsChanged();
        due.end();
    }

    private static void when() {
        DriedMap x = new DriedMap();
        due.is("when(0), no bay", x.when(0), Due.UNKNOWN);
        Due.take(x, "b322m7s8c9m0");
        due.is("mud 7 by 3", x.when(0), 3);
        due.is("sand 8 by 4", x.when(1), 2);
        due.is("clay 9 by 1", x.when(2), 9);
        due.is("cracked now", x.when(3), 0);
        due.is("when(4)", x.when(4), Due.UNKNOWN);
        due.is("when(-1)", x.when(-1), Due.UNKNOWN);
        x.shine(1);
        due.is("mud 7 by 1", x.when(0), 7);
        due.is("clay by 0", x.when(2), Due.NONE);
        x.shine(0);
        due.is("mud by 0", x.when(0), Due.NONE);
        due.is("sand by 1", x.when(1), 8);
        due.is("cracked now", x.when(3), 0);
        x.dry(3);
        due.is("from now on", x.when(1), 5);
    }

    private static void opens() {
        DriedMap x = new DriedMap();
        due.is("opens(), no bay", x.opens(), Due.STATE);
        Due.take(x, "b122m5m9m9m3");
        due.is("a column of 5 and 9", x.opens(), 9);
        x.pour(3, 2);
        due.is("the later of two", x.opens(), 9);
        Due.take(x, "b122m5m7m9m8");
        due.is("the sooner column", x.opens(), 8);
        Due.take(x, "b122m0m7m0m8");
        due.is("open now", x.opens(), 0);
        Due.take(x, "b022m0m7m1m8");
        due.is("never", x.opens(), Due.NONE);
        x.silt(2, 1);
        due.is("by sand", x.opens(), 1);
    }

    private static void bars() {
        DriedMap x = new DriedMap();
        due.is("bars(21), no bay", x.bars(21), Due.OUTSIDE);
        due.is("bars(-1), no bay", x.bars(-1), Due.OUTSIDE);
        due.is("bars(20), no bay", x.bars(20), Due.STATE);
        Due.take(x, "b122m1m3m2m3");
        due.is("not open", x.bars(1), 0);
        due.is("one column, the least", x.bars(2), 1);
        due.is("both columns", x.bars(3), 3);
        due.is("behind 20", x.bars(20), 3);
        due.is("bars(21)", x.bars(21), Due.OUTSIDE);
        Due.take(x, "b143m0m0m0m0m9m9m0m9m0m0m0m0");
        due.is("the neck, by the cell above it, the least", x.bars(0), 4);
        due.is("a full row", x.bars(9), 15);
        Due.take(x, "b043m0m0m0m9m9m0m9m9m0m0m0m0");
        due.is("a neck below more", x.bars(0), 2);
        Due.take(x, "b043m9m0m9m9m0m0m0m9m0m9m0m9");
        due.is("cells that are cracked now, too", x.bars(0), 2);
        // Two ways, each with cells of its own: one cell of each, of several the least.
        Due.take(x, "b043m0m9m9m0m0m9m9m0m0m9m9m0");
        due.is("one of each", x.bars(0), 1 + 8);
        // The set of 0, 1 and 2 is less, but has more cells.
        Due.take(x, "b043m0m0m0m9m0m0m0m9m9m9m0m9");
        due.is("fewer, though not the least set", x.bars(0), 64);
        Due.take(x, "b043m0m0m0m9m0m0m0m9m0m0m9m9");
        due.is("askew", x.bars(0), 1 + 32);
    }

    private static void dates() {
        DriedMap x = new DriedMap();
        due.is("dates(-1), no bay", x.dates(-1), Due.STATE);
        Due.take(x, "b122m1m3m2m3");
        due.is("none", x.dates(0), 1);
        due.is("0", x.dates(1), 2);
        due.is("0 and 2", x.dates(5), 4);
        due.is("2 alone", x.dates(4), 0);
        due.is("all", x.dates(15), (1 << 21) - 8);
        due.is("a cell more", x.dates(16), Due.OUTSIDE);
        due.is("dates(-1)", x.dates(-1), Due.OUTSIDE);
        due.is("greatest", x.dates(Integer.MAX_VALUE), Due.OUTSIDE);
        due.is("least", x.dates(Integer.MIN_VALUE), Due.OUTSIDE);
        x.shine(0);
        due.is("always", x.dates(0), (1 << 21) - 1);
        Due.take(x, "b943m1m1m1m1m1m1m1m1m1m1m1m1");
        due.is("twelve cells", x.dates(4095), (1 << 21) - 2);
        due.is("a thirteenth", x.dates(4096), Due.OUTSIDE);
    }

    private static void nothingIsChanged() {
        DriedMap x = Due.bayOf("b122m1m3m2m3");
        x.when(1);
        x.opens();
        x.bars(20);
        x.dates(15);
        due.is("wet", x.ofCell(1, 1), 3);
        due.is("hour", x.many(3), 0);
        due.is("cracked", x.many(4), 0);
    }
}
