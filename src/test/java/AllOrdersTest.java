import java.util.function.Consumer;
import java.util.function.ToLongFunction;

/**
 * All promises: every call with numbers at and beyond each edge in every combination, so that any two refusals or faults
 * that could come together do, held against Plain; no call may throw.
 */
public final class AllOrdersTest {
    private static final int MIN = Integer.MIN_VALUE, MAX = Integer.MAX_VALUE;
    /** A new pair of objects is made ahead of the 512th call. */
    private static final int MOST_CALLS = 512;
    private static final int[] CELLS = {MIN, -1, 0, 3, 4, 11, 12, MAX};
    private static final int[] SHEETS = {MIN, -1, 0, 1, 2, 3, 4, MAX};
    private static final int[] LANES = {MIN, -1, 0, 1, 2, 3, MAX};
    private static final int[] PLACES = {MIN, -1, 0, 1, 2, 3, 4, 11, 12, 13, 59, 60, MAX};
    private static final int[] LENGTHS = {MIN, -1, 0, 1, 2, 12, 13, 20, 21, 60, 61, MAX};
    private static final int[] SMALL = {MIN, -2, -1, 0, 1, 2, 3, 4, 5, 6, 8, 9, 10, 11, 15, 16, 20, 21, 22, 30, 31, 4095, 4096, MAX};

    private static final Due due = new Due();

    private final String text;
    private DriedMap x;
    private Plain p;
    private int calls;

    private AllOrdersTest(String text) {
        this.text = text;
        begin();
    }

    public static void main(String[] args) {
        for (String text : new String[] {"", "b222m4s6c2m0", "b143m9s8c7m6s5c4m3s2c1m0s9c0"}) {
            AllOrdersTest test = new AllOrdersTest(text);
            test.withOne();
            test.withTwo();
            test.withThree();
            test.bayAndPlan();
            test.copy();
        }
        due.end();
    }

    private void begin() {
        x = new DriedMap();
        p = new Plain();
        calls = 0;
        row(0, 0, text.chars().toArray());
        row(1, 2, 0, 1, 1, 0, 1, 3, 2, 9);
        row(3, 2, 2, 0, 0, 9, 1, 4, 7);
        both("bay", y -> y.bay(0, 0, 0, text.length()), y -> y.bay(0, 0, 0, text.length()));
        both("reading", y -> y.reading(1, 2, 1), y -> y.reading(1, 2, 1));
    }

    private void row(int sheet, int lane, int... numbers) {
        both("sheet", y -> y.sheet(sheet, lane, numbers.length), y -> y.sheet(sheet, lane, numbers.length));
        for (int i = 0; i < numbers.length; i++) {
            int at = i;
            both("put", y -> y.put(sheet, at, numbers[at]), y -> y.put(sheet, at, numbers[at]));
        }
    }

    private void both(String call, ToLongFunction<DriedMap> ofX, ToLongFunction<Plain> ofP) {
        due.is(text + ": " + call, ofX.applyAsLong(x), ofP.applyAsLong(p));
        due.is(text + ": fault() behind " + call, x.fault(), p.fault());
        calls += 2;
    }

    private void each(String call, ToLongFunction<DriedMap> ofX, ToLongFunction<Plain> ofP) {
        if (calls + 3 > MOST_CALLS) {
            begin();
        }
        both(call, ofX, ofP);
        due.is(text + ": trace() behind " + call, x.trace(), p.trace());
        calls++;
    }

    private void withOne() {
        for (int a : SMALL) {
            each("shine " + a, y -> y.shine(a), y -> y.shine(a));
            each("dry " + a, y -> y.dry(a), y -> y.dry(a));
            each("cracks " + a, y -> y.cracks(a), y -> y.cracks(a));
            each("when " + a, y -> y.when(a), y -> y.when(a));
            each("opens", y -> y.opens(), y -> y.opens());
            each("bars " + a, y -> y.bars(a), y -> y.bars(a));
            each("dates " + a, y -> y.dates(a), y -> y.dates(a));
            each("wets " + a, y -> y.wets(a), y -> y.wets(a));
            each("kinds " + a, y -> y.kinds(a), y -> y.kinds(a));
            each("suns", y -> y.suns(), y -> y.suns());
            each("back " + a, y -> y.back(a), y -> y.back(a));
            each("odds " + a, y -> y.odds(a), y -> y.odds(a));
            each("lose " + a, y -> y.lose(a), y -> y.lose(a));
            each("tell " + a, y -> y.tell(a), y -> y.tell(a));
            each("draw " + a, y -> y.draw(a), y -> y.draw(a));
            each("many " + a, y -> y.many(a), y -> y.many(a));
        }
        begin();
    }

    private void withTwo() {
        for (int a : CELLS) {
            for (int b : SMALL) {
                String of = " " + a + ", " + b;
                each("ofCell" + of, y -> y.ofCell(a, b), y -> y.ofCell(a, b));
                each("pour" + of, y -> y.pour(a, b), y -> y.pour(a, b));
                each("way" + of, y -> y.way(a, b), y -> y.way(a, b));
                each("as" + of, y -> y.as(a, b), y -> y.as(a, b));
                each("silt" + of, y -> y.silt(a, b), y -> y.silt(a, b));
            }
        }
        begin();
    }

    private void withThree() {
        for (int a : CELLS) {
            for (int b : SMALL) {
                for (int c : LANES) {
                    each("reading " + a + ", " + b + ", " + c, y -> y.reading(a, b, c), y -> y.reading(a, b, c));
                }
            }
        }
        begin();
        for (int a : SHEETS) {
            for (int b : PLACES) {
                for (int c : LANES) {
                    each("cell " + a + ", " + b + ", " + c, y -> y.cell(a, b, c), y -> y.cell(a, b, c));
                    each("put " + a + ", " + b + ", " + c, y -> y.put(a, b, c), y -> y.put(a, b, c));
                }
            }
        }
        begin();
        for (int a : SHEETS) {
            for (int b : LANES) {
                for (int c : LENGTHS) {
                    each("sheet " + a + ", " + b + ", " + c, y -> y.sheet(a, b, c), y -> y.sheet(a, b, c));
                }
            }
        }
        begin();
    }

    private void bayAndPlan() {
        combine(SHEETS, LANES, of -> {
            for (int i : PLACES) {
                for (int n : LENGTHS) {
                    String call = " " + of[0] + ", " + of[1] + ", " + i + ", " + n;
                    each("bay" + call, y -> y.bay(of[0], of[1], i, n), y -> y.bay(of[0], of[1], i, n));
                    for (int what : SMALL) {
                        each("plan" + call + ", " + what, y -> y.plan(of[0], of[1], i, n, what), y -> y.plan(of[0], of[1], i, n, what));
                    }
                }
            }
        });
        begin();
    }

    private void copy() {
        combine(SHEETS, SHEETS, of -> {
            for (int i : PLACES) {
                for (int j : PLACES) {
                    for (int n : LENGTHS) {
                        String call = "copy " + of[0] + ", " + i + ", " + of[1] + ", " + j + ", " + n;
                        each(call, y -> y.copy(of[0], i, of[1], j, n), y -> y.copy(of[0], i, of[1], j, n));
                    }
                }
            }
        });
        begin();
    }

    private static void combine(int[] firsts, int[] seconds, Consumer<int[]> then) {
        for (int first : firsts) {
            for (int second : seconds) {
                then.accept(new int[] {first, second});
            }
        }
    }
}
