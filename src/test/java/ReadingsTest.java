/** Promises 15 to 20: reading, back, wets, kinds, suns, odds. */
public final class ReadingsTest {
    private static final Due due = new Due();

    public static void main(String[] args) {
        reading();
        back();
        wets();
        kinds();
        suns();
        readingsAreFromNow();
        odds();
        due.end();
    }

    private static void reading() {
        DriedMap x = new DriedMap();
        due.is("reading(0, 99, 9), no bay", x.reading(0, 99, 9), Due.UNKNOWN);
        Due.take(x, "b222m4s6c2m0");
        due.is("cell 4", x.reading(4, 99, 9), Due.UNKNOWN);
        due.is("cell -1", x.reading(-1, 0, 0), Due.UNKNOWN);
        due.is("hours 21", x.reading(0, 21, 0), Due.OUTSIDE);
        due.is("hours -1", x.reading(0, -1, 0), Due.OUTSIDE);
        due.is("cracked 2", x.reading(0, 0, 2), Due.OUTSIDE);
        due.is("cracked -1", x.reading(0, 0, -1), Due.OUTSIDE);
        for (int k = 0; k < 8; k++) {
            due.is("how many", x.many(5), k);
            due.is("reading " + k, x.reading(k & 3, 20, k & 1), k);
        }
        due.is("a ninth", x.reading(0, 0, 0), Due.FULL);
        due.is("a ninth, hours", x.reading(0, 21, 0), Due.OUTSIDE);
        due.is("a ninth, cell", x.reading(4, 21, 0), Due.UNKNOWN);
        due.is("how many", x.many(5), 8);
        due.is("no fault is named", x.fault(), 0);
    }

    private static void back() {
        DriedMap x = new DriedMap();
        due.is("back(0), no bay", x.back(0), 0);
        due.is("back(1), no bay", x.back(1), Due.OUTSIDE);
        Due.take(x, "b222m4s6c2m0");
        x.reading(0, 2, 0);
        x.reading(1, 2, 1);
        x.reading(2, 2, 1);
        due.is("back(4)", x.back(4), Due.OUTSIDE);
        due.is("back(-1)", x.back(-1), Due.OUTSIDE);
        due.is("back(0)", x.back(0), 3);
        due.is("back(2)", x.back(2), 1);
        due.is("the first is left", x.wets(0), 1023 - 31);
        due.is("next number", x.reading(3, 0, 1), 1);
        due.is("back(2)", x.back(2), 0);
        due.is("how many", x.many(5), 0);
        due.is("all may be", x.wets(0), 1023);
    }

    private static void wets() {
        DriedMap x = new DriedMap();
        due.is("wets(0), no bay", x.wets(0), Due.UNKNOWN);
        Due.take(x, "b222m4s6c2m0");
        due.is("no readings", x.wets(1), 1023);
        x.reading(0, 2, 1);
        due.is("4 at most", x.wets(0), 31);
        due.is("of another cell", x.wets(1), 1023);
        x.reading(0, 1, 0);
        due.is("3, 4", x.wets(0), 8 + 16);
        x.reading(1, 2, 0);
        due.is("that of another cell is not so", x.wets(0), 0);
        due.is("7 at least", x.wets(1), 1023 - 127);
        x.reading(1, 1, 1);
        due.is("none", x.wets(1), 0);
        due.is("wets(4)", x.wets(4), Due.UNKNOWN);
        due.is("wets(-1)", x.wets(-1), Due.UNKNOWN);
        due.is("nothing is changed", x.ofCell(0, 1), 4);
        Due.take(x, "b222m4s6c2m0");
        x.reading(3, 0, 1);
        due.is("cracked now", x.wets(3), 1);
        x.back(1);
        x.reading(3, 0, 0);
        due.is("not cracked now", x.wets(3), 1022);
    }

    private static void kinds() {
        DriedMap x = new DriedMap();
        due.is("kinds(0), no bay", x.kinds(0), Due.UNKNOWN);
        Due.take(x, "b222m4s6c2m0");
        due.is("no readings", x.kinds(1), 7);
        x.reading(0, 2, 1);
        due.is("mud, sand", x.kinds(0), 3);
        due.is("another cell", x.kinds(2), 7);
        x.reading(1, 2, 0);
        due.is("that of another cell is not so", x.kinds(0), 0);
        due.is("mud, clay", x.kinds(1), 5);
        x.back(2);
        x.reading(0, 2, 0);
        due.is("clay", x.kinds(0), 4);
        x.reading(3, 0, 0);
        due.is("none by any kind", x.kinds(3), 0);
        due.is("kinds(4)", x.kinds(4), Due.UNKNOWN);
        due.is("kinds(-1)", x.kinds(-1), Due.UNKNOWN);
        due.is("nothing is changed", x.ofCell(0, 0), 0);
    }

    private static void suns() {
        DriedMap x = new DriedMap();
        due.is("suns(), no bay", x.suns(), Due.STATE);
        Due.take(x, "b222m4s6c2m0");
        due.is("no readings", x.suns(), 1023);
        x.reading(0, 2, 1);
        due.is("2 at least", x.suns(), 1023 - 3);
        x.reading(1, 1, 0);
        due.is("4 at most", x.suns(), 4 + 8 + 16);
        x.reading(2, 1, 1);
        due.is("4", x.suns(), 16);
        x.reading(3, 20, 0);
        due.is("none", x.suns(), 0);
        due.is("nothing is changed", x.many(2), 2);
    }

    private static void readingsAreFromNow() {
        DriedMap x = Due.bayOf("b222m8s6c2m0");
        x.reading(0, 3, 1);
        due.is("6 at most", x.wets(0), 127);
        due.is("suns", x.suns(), 1023 - 7);
        x.dry(2);
        due.is("4 are left, so 2 do", x.suns(), 1023 - 3);
        x.silt(0, 1);
        due.is("9 at most", x.wets(0), 1023);
        x.shine(0);
        due.is("3 at most", x.wets(0), 15);
    }

    private static void odds() {
        DriedMap x = new DriedMap();
        due.is("odds(2), no bay", x.odds(2), Due.LOST);
        due.is("odds(0), no bay", x.odds(0), Due.LOST);
        due.is("odds(1), no bay", x.odds(1), Due.LOST);
        share(x, "b122m1m1m1m1", 7, 16);
        share(x, "b122m0m1m1m1", 5, 8);
        share(x, "b122m0m1m1m0", 3, 4);
        share(x, "b122m0m0m1m1", 3, 4);
        share(x, "b122m0m9m0m9", 1, 1);
        share(x, "b122m0m0m0m0", 1, 1);
        share(x, "b132m1m1m1m1m1m1", 37, 64);
        share(x, "b142m1m1m1m1m1m1m1m1", 175, 256);
        // Of 64 ways: 15 by one column or both (1/8 + 1/8 - 1/64), and 2 that go along the middle row.
        share(x, "b123m1m1m1m1m1m1", 17, 64);
        due.is("odds(2)", x.odds(2), Due.LOST);
        due.is("odds(-1)", x.odds(-1), Due.LOST);
        due.is("no fault is named", x.fault(), 0);
    }

    private static void share(DriedMap x, String text, long upper, long lower) {
        Due.take(x, text);
        due.is("upper of " + text, x.odds(0), upper);
        due.is("lower of " + text, x.odds(1), lower);
    }
}
