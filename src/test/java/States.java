/** Objects in states from which tests begin: sheet 1 has three shorts, 2 nothing, 3 four ints, and 0 the TEXT. */
final class States {
    static final String[] SHAPES = {"b522m1m2m3m4", "b532m1m2m3m4m5m6", "b542m1m2m3m4m5m6m7m8", "b523m1m2m3m4m5m6",
        "b533m1m2m3m4m5m6m7m8m9", "b543m1m2m3m4m5m6m7m8m9m0m1m2"};

    private States() {
    }

    static DriedMap noBay() {
        DriedMap x = new DriedMap();
        fill(x, 1, 1, 7, -300, 5);
        fill(x, 3, 2, 3, 0, 1 << 20, -5);
        return x;
    }

    /** 2 by 2 at HOUR 1, SUN 2: MUD 7, SAND 6, CLAY 3, MUD 0 (CRACKED); three READINGS that are so. */
    static DriedMap small() {
        DriedMap x = noBay();
        Due.take(x, "b222m9s9c4m2");
        x.dry(1);
        x.tell(2);
        x.reading(0, 2, 0);
        x.reading(1, 2, 1);
        x.reading(2, 20, 1);
        return x;
    }

    /** 4 by 3 at HOUR 2, SUN 1, with eight READINGS that are so. */
    static DriedMap large() {
        DriedMap x = noBay();
        Due.take(x, "b143m9s8c7m6s5c4m3s2c1m2s9c0");
        x.dry(2);
        x.draw(2);
        for (int k = 0; k < 8; k++) {
            int behind = x.when(k);
            x.reading(k, k, behind != Due.NONE && behind <= k ? 1 : 0);
        }
        return x;
    }

    /** The BAY of small(), and a text that stands on sheet 0 as bytes, but was not taken. */
    static DriedMap written(String text) {
        DriedMap x = small();
        Due.write(x, 0, text);
        return x;
    }

    /** A BAY by a TEXT, and pairs on sheet 1 as ints. */
    static DriedMap planned(String text, int... pairs) {
        DriedMap x = Due.bayOf(text);
        x.reading(0, 1, 1);
        Due.pairs(x, pairs);
        return x;
    }

    static DriedMap fill(DriedMap x, int sheet, int lane, int... numbers) {
        x.sheet(sheet, lane, numbers.length);
        for (int i = 0; i < numbers.length; i++) {
            x.put(sheet, i, numbers[i]);
        }
        return x;
    }
}
