/** Compares answers with those that are due, and makes objects for tests. */
final class Due {
    static final int UNKNOWN = -1, OUTSIDE = -2, STATE = -3, FULL = -4, NONE = -9;
    static final int NULL = -11, CAST = -12, INDEX = -13, SIZE = -14;
    static final long LOST = Long.MIN_VALUE;

    private int calls = 0;
    private int wrong = 0;

    void is(String call, long got, long want) {
        calls++;
        if (got != want) {
            wrong++;
            System.out.println(call + " answered " + got + ", due is " + want);
        }
    }

    /** The answer of a call that names FAULTS, and what fault() tells behind it. */
    void fault(DriedMap x, String call, long got, long want) {
        is(call, got, want);
        is("fault() behind " + call, x.fault(), want <= NULL && want >= SIZE ? -10 - want : 0);
    }

    void end() {
        System.out.println(calls + " answers, " + wrong + " wrong");
        if (wrong != 0) {
            System.exit(1);
        }
    }

    /** A text on a sheet, as a row of bytes that has just its length. */
    static void write(DriedMap x, int sheet, String text) {
        x.sheet(sheet, 0, text.length());
        for (int i = 0; i < text.length(); i++) {
            x.put(sheet, i, text.charAt(i));
        }
    }

    static int take(DriedMap x, String text) {
        write(x, 0, text);
        return x.bay(0, 0, 0, text.length());
    }

    static DriedMap bayOf(String text) {
        DriedMap x = new DriedMap();
        take(x, text);
        return x;
    }

    /** A plan on sheet 1, as ints. */
    static void pairs(DriedMap x, int... numbers) {
        x.sheet(1, 2, numbers.length);
        for (int i = 0; i < numbers.length; i++) {
            x.put(1, i, numbers[i]);
        }
    }
}
