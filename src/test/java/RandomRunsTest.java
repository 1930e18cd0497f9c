/** All promises: runs of up to 512 calls, drawn by a generator that always draws the same, held against Plain. */
public final class RandomRunsTest {
    private static final int RUNS = 800, CALLS = 512, LONGEST_STEP = 36, CALL_KINDS = 30;
    private static final int[] EDGES = {Integer.MIN_VALUE, -1000, -2, -1, 61, 1000, 65536, Integer.MAX_VALUE};

    private final Due due;
    private long seed;
    private DriedMap x;
    private Plain p;

    private RandomRunsTest(Due due, long seed) {
        this.due = due;
        this.seed = seed;
        this.x = new DriedMap();
        this.p = new Plain();
    }

    public static void main(String[] args) {
        Due due = new Due();
        for (int run = 1; run <= RUNS; run++) {
            new RandomRunsTest(due, 7919L * run).go(run);
        }
        due.end();
    }

    private void go(int run) {
        int calls = 0;
        while (calls <= CALLS - LONGEST_STEP) {
            int of = draw(CALL_KINDS + 6);
            if (of < CALL_KINDS) {
                calls += one("run " + run + " call " + calls + ": ", of);
            } else if (of < CALL_KINDS + 3 && (draw(6) == 0 || p.many(0) == 0)) {
                calls += text("run " + run + " call " + calls + ": ");
            } else if (of >= CALL_KINDS + 3) {
                calls += plan("run " + run + " call " + calls + ": ");
            }
        }
    }

    private int draw(int below) {
        seed = seed * 6364136223846793005L + 1442695040888963407L;
        return (int) ((seed >>> 33) % below);
    }

    /** Mostly a number from least to most, at times one just beside them or far off. */
    private int near(int least, int most) {
        int how = draw(40);
        if (how == 0) {
            return least - 1;
        }
        if (how == 1) {
            return most + 1;
        }
        if (how == 2) {
            return EDGES[draw(EDGES.length)];
        }
        return least + draw(most - least + 1);
    }

    private int cell() {
        return near(0, Math.max(0, p.many(0) * p.many(1) - 1));
    }

    private int text(String at) {
        StringBuilder text = new StringBuilder("b");
        int wide = 2 + draw(3), high = 2 + draw(2);
        text.append(draw(10)).append(wide).append(high);
        int dryness = draw(3);
        for (int c = 0; c < wide * high; c++) {
            text.append("msc".charAt(draw(3))).append(draw(3) < dryness ? 0 : draw(10));
        }
        if (draw(4) == 0) {
            text.setCharAt(draw(text.length()), "bmsc0123459x".charAt(draw(12)));
        }
        if (draw(8) == 0) {
            text.setLength(draw(text.length()));
        }
        if (draw(8) == 0) {
            text.append('m');
        }
        int sheet = draw(4), lane = draw(3), from = draw(5), n = text.length();
        due.is(at + "sheet", x.sheet(sheet, lane, from + n), p.sheet(sheet, lane, from + n));
        for (int i = 0; i < n; i++) {
            due.is(at + "put", x.put(sheet, from + i, text.charAt(i)), p.put(sheet, from + i, text.charAt(i)));
        }
        due.is(at + "bay of " + text, x.bay(sheet, lane, from, n), p.bay(sheet, lane, from, n));
        return n + 2;
    }

    private int plan(String at) {
        int n = draw(6), sheet = draw(4), lane = draw(3), from = draw(3);
        due.is(at + "sheet", x.sheet(sheet, lane, from + 2 * n), p.sheet(sheet, lane, from + 2 * n));
        for (int k = 0; k < n; k++) {
            int act = near(0, 2), v = act == 1 ? cell() : act == 0 && draw(2) == 0 ? draw(3) : near(0, 9);
            int i = from + 2 * k;
            due.is(at + "put", x.put(sheet, i, act), p.put(sheet, i, act));
            due.is(at + "put", x.put(sheet, i + 1, v), p.put(sheet, i + 1, v));
        }
        for (int what = 0; what <= 21; what++) {
            due.is(at + "plan, what " + what, x.plan(sheet, lane, from, n, what), p.plan(sheet, lane, from, n, what));
        }
        return 2 * n + 23;
    }

    private int one(String at, int of) {
        if (of < 14) {
            early(at, of);
        } else {
            late(at, of);
        }
        due.is(at + "fault", x.fault(), p.fault());
        due.is(at + "trace", x.trace(), p.trace());
        return 3;
    }

    private void early(String at, int of) {
        int c = cell(), d = cell();
        int a = near(0, 3), b = near(0, 2), i = near(0, 30), n = near(0, 30);
        int v = near(0, 9), h = near(0, 20);
        switch (of) {
            case 0 -> due.is(at + "bay", x.bay(a, b, i, n), p.bay(a, b, i, n));
            case 1 -> due.is(at + "ofCell", x.ofCell(c, 4), p.ofCell(c, 4));
            case 2 -> due.is(at + "shine", x.shine(v), p.shine(v));
            case 3 -> due.is(at + "silt", x.silt(c, b), p.silt(c, b));
            case 4 -> {
                int hours = draw(3) == 0 ? near(1, 30) : 1 + draw(2);
                due.is(at + "dry " + hours, x.dry(hours), p.dry(hours));
            }
            case 5 -> due.is(at + "pour", x.pour(c, v), p.pour(c, v));
            case 6 -> due.is(at + "cracks", x.cracks(a), p.cracks(a));
            case 7 -> due.is(at + "way", x.way(c, d), p.way(c, d));
            case 8 -> due.is(at + "plan", x.plan(a, b, i, n, v), p.plan(a, b, i, n, v));
            case 9 -> due.is(at + "when", x.when(c), p.when(c));
            case 10 -> due.is(at + "opens", x.opens(), p.opens());
            case 11 -> due.is(at + "bars", x.bars(h), p.bars(h));
            case 12 -> {
                int set = draw(2) == 0 ? near(0, 4095) : p.cracks(0);
                due.is(at + "dates", x.dates(set), p.dates(set));
            }
            default -> {
                int what = near(0, 4);
                due.is(at + "ofCell", x.ofCell(c, what), p.ofCell(c, what));
            }
        }
    }

    private void late(String at, int of) {
        int c = cell();
        int a = near(0, 3), b = near(0, 2), i = near(0, 20), n = near(0, 20), other = near(0, 3), j = near(0, 20);
        int v = EDGES[draw(EDGES.length)] + draw(400), h = draw(3) == 0 ? near(0, 20) : draw(6), s = near(0, 1);
        switch (of) {
            case 14 -> due.is(at + "reading", x.reading(c, h, s), p.reading(c, h, s));
            case 15 -> due.is(at + "back", x.back(b), p.back(b));
            case 16 -> due.is(at + "wets", x.wets(c), p.wets(c));
            case 17 -> due.is(at + "kinds", x.kinds(c), p.kinds(c));
            case 18 -> due.is(at + "suns", x.suns(), p.suns());
            case 19 -> due.is(at + "odds", x.odds(s), p.odds(s));
            case 20 -> {
                int length = near(0, 60);
                due.is(at + "sheet", x.sheet(a, b, length), p.sheet(a, b, length));
            }
            case 21 -> due.is(at + "lose", x.lose(a), p.lose(a));
            case 22 -> due.is(at + "put", x.put(a, i, v), p.put(a, i, v));
            case 23 -> due.is(at + "cell", x.cell(a, i, b), p.cell(a, i, b));
            case 24 -> due.is(at + "copy", x.copy(a, i, other, j, n), p.copy(a, i, other, j, n));
            case 25 -> due.is(at + "tell", x.tell(c), p.tell(c));
            case 26 -> due.is(at + "draw", x.draw(c), p.draw(c));
            case 27 -> due.is(at + "as", x.as(c, b), p.as(c, b));
            case 28 -> {
                int really = trueReading(c, h);
                due.is(at + "reading", x.reading(c, h, really), p.reading(c, h, really));
            }
            default -> {
                int what = near(0, 5);
                due.is(at + "many", x.many(what), p.many(what));
            }
        }
    }

    /** A reading that is so, that sets of readings are not always empty. */
    private int trueReading(int c, int hours) {
        int behind = p.when(c);
        return behind >= 0 && behind <= hours ? 1 : 0;
    }
}
