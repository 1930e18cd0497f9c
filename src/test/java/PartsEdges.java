/** Edges of promises 26 to 31: tell, draw, as, trace, fault, many. */
final class PartsEdges {
    private static final int MIN = Integer.MIN_VALUE, MAX = Integer.MAX_VALUE;
    private static final String ALL_KINDS = "b043m0m9s0s9c0c9m1s1c1m8s8c8";

    private final Edges e;

    PartsEdges(Edges e) {
        this.e = e;
    }

    void all() {
        tell();
        draw();
        refusalsOfTellAndDraw();
        as();
        trace();
        fault();
        faultOfCallsThatNameNone();
        many();
    }

    private void tell() {
        e.by(26, "TELLING of a CELL.", "TELLING of CELLS by bodies that leave their number in TRACE",
            "as they begin: MUD (1): WET. SAND (2): what MUD's gives, and 100. CLAY (3): what SAND's gives, and what MUD's gives (SAND's left out).");
        int mud = 1, sand = 31 * 2 + 1, clay = 31 * (31 * (31 * 3 + 2) + 1) + 1;
        int[] traces = {mud, mud, sand, sand, clay, clay, mud, sand, clay, mud, sand, clay};
        int[] told = {0, 9, 100, 109, 100, 118, 1, 101, 102, 8, 108, 116};
        for (int c = 0; c < 12; c++) {
            DriedMap x = Due.bayOf(ALL_KINDS);
            e.is("tell(" + c + ")", x.tell(c), told[c]);
            e.is("trace() behind tell(" + c + ")", x.trace(), traces[c]);
            e.is("WET stays", x.ofCell(c, 1), ALL_KINDS.charAt(5 + 2 * c) - '0');
        }
    }

    private void draw() {
        e.by(27, "How it is DRAWN.", "DRAWN by a lent body (4): its number; CLAY has its own (5): 80.");
        for (int c = 0; c < 12; c++) {
            DriedMap x = Due.bayOf(ALL_KINDS);
            boolean clay = ALL_KINDS.charAt(4 + 2 * c) == 'c';
            e.is("draw(" + c + ")", x.draw(c), clay ? 80 : c);
            e.is("trace() behind draw(" + c + ")", x.trace(), clay ? 5 : 4);
        }
    }

    private void refusalsOfTellAndDraw() {
        for (int c : new int[] {-1, 4, 12, MIN, MAX}) {
            e.by(26, "TELLING of a CELL. UNKNOWN.", "they change nothing (but fault(), of a call that names FAULTS).");
            e.refuses("UNKNOWN", "tell(" + c + ")", States::small, x -> x.tell(c));
            e.by(27, "How it is DRAWN. UNKNOWN.");
            e.refuses("UNKNOWN", "draw(" + c + ")", States::small, x -> x.draw(c));
        }
        e.by(26, "TELLING of a CELL. UNKNOWN.");
        e.refuses("UNKNOWN", "tell(0) without a BAY", States::noBay, x -> x.tell(0));
        e.refuses("UNKNOWN", "tell(12) of 12 CELLS", States::large, x -> x.tell(12));
        e.by(27, "How it is DRAWN. UNKNOWN.");
        e.refuses("UNKNOWN", "draw(0) without a BAY", States::noBay, x -> x.draw(0));
        e.refuses("UNKNOWN", "draw(12) of 12 CELLS", States::large, x -> x.draw(12));
    }

    private void as() {
        e.by(28, "A CELL, taken as one of a kind: 1.");
        for (int[] of : new int[][] {{0, 0}, {1, 0}, {1, 1}, {2, 0}, {2, 1}, {2, 2}, {3, 0}}) {
            e.leaves("as(" + of[0] + ", " + of[1] + ")", States::small, x -> x.as(of[0], of[1]), 1);
        }
        e.by(28, "CAST: it is none (each is a MUD, too; a CLAY is a SAND).");
        for (int[] of : new int[][] {{0, 1}, {0, 2}, {1, 2}, {3, 1}, {3, 2}}) {
            e.refuses("CAST", "as(" + of[0] + ", " + of[1] + ")", States::small, x -> x.as(of[0], of[1]));
        }
        DriedMap y = States.small();
        y.silt(0, 2);
        e.is(y, "as(0, 2), silted", y.as(0, 2), 1);
        e.by(28, "of a kind: 1. UNKNOWN; OUTSIDE;", "REFUSALS, in the order in which a call's line tells them: UNKNOWN");
        for (int c : new int[] {-1, 4, 12, MIN, MAX}) {
            e.refuses("UNKNOWN", "as(" + c + ", 0)", States::small, x -> x.as(c, 0));
            e.refuses("UNKNOWN", "as(" + c + ", 3): ahead of OUTSIDE", States::small, x -> x.as(c, 3));
        }
        e.refuses("UNKNOWN", "as(0, 0) without a BAY", States::noBay, x -> x.as(0, 0));
        for (int kind : new int[] {-1, 3, MIN, MAX}) {
            e.refuses("OUTSIDE", "as(0, " + kind + "): ahead of CAST", States::small, x -> x.as(0, kind));
            e.refuses("OUTSIDE", "as(2, " + kind + ")", States::small, x -> x.as(2, kind));
        }
    }

    private void trace() {
        e.by(29, "TRACE.", "(an int that wraps, 0 at first, becomes 31 times it and the number)");
        DriedMap x = Due.bayOf("b022m1s1c1m1");
        e.is("0 at first", x.trace(), 0);
        for (int k = 0; k < 7; k++) {
            x.tell(0);
        }
        e.is("the last that is not cut", x.trace(), 917087137);
        x.tell(0);
        e.is("it wraps, to one below 0", x.trace(), -1635069824);
        x.draw(2);
        e.is("and from there", x.trace(), 31 * -1635069824 + 5);
        e.leaves("trace()", States::small, DriedMap::trace, 31 * (31 * (31 * 3 + 2) + 1) + 1);
        DriedMap longest = Due.bayOf("b022m1s1c1m1");
        int want = 0;
        for (int k = 0; k < 490; k++) {
            longest.draw(1);
            want = 31 * want + 4;
        }
        e.is("behind some 500 calls", longest.trace(), want);
    }

    private void fault() {
        e.by(30, "The FAULT of the latest call that names one: 0: it came to none, or was refused (0 ahead of any).",
            "and changes nothing; fault() tells it.");
        e.is("ahead of any", new DriedMap().fault(), 0);
        e.is("ahead of any, behind calls that name none", Due.bayOf("b022m1s1c1m1").fault(), 0);
        Edges.Call[] good = {x -> x.bay(0, 0, 0, 12), x -> x.bay(0, 0, 0, 3), x -> x.plan(0, 0, 0, 0, 0), x -> x.sheet(3, 0, 0), x -> x.put(1, 0, 0),
            x -> x.cell(1, 0, 1), x -> x.copy(1, 0, 1, 1, 1), x -> x.as(0, 0)};
        Edges.Call[] refused = {x -> x.bay(4, 0, 0, 0), x -> x.bay(0, 3, 0, 0), x -> x.plan(4, 0, 0, 0, 0), x -> x.plan(0, 0, 0, 21, 0),
            x -> x.plan(0, 0, 0, 1, 0), x -> x.sheet(4, 0, 0), x -> x.sheet(0, 0, 61), x -> x.put(4, 0, 0), x -> x.cell(4, 0, 0),
            x -> x.cell(0, 0, 3), x -> x.copy(0, 0, 4, 0, 0), x -> x.as(4, 0), x -> x.as(0, 3)};
        Edges.Call[] faulty = {x -> x.put(2, 0, 0), x -> x.cell(1, 0, 0), x -> x.copy(1, 0, 1, 0, -1), x -> x.bay(0, 0, 0, -1)};
        for (int f = 0; f < faulty.length; f++) {
            for (int k = 0; k < good.length + refused.length; k++) {
                DriedMap x = States.small();
                faulty[f].on(x);
                e.is("a FAULT", x.fault(), f + 1);
                e.is("it, asked again", x.fault(), f + 1);
                (k < good.length ? good[k] : refused[k - good.length]).on(x);
                e.is("0 behind call " + k, x.fault(), 0);
                faulty[3 - f].on(x);
                e.is("the latest FAULT", x.fault(), 4 - f);
                faulty[f].on(x);
                e.is("the latest of two", x.fault(), f + 1);
            }
        }
    }

    private void faultOfCallsThatNameNone() {
        e.by(30, "The FAULT of the latest call that names one:");
        Edges.Call[] none = {x -> x.ofCell(0, 0), x -> x.ofCell(9, 0), x -> x.shine(3), x -> x.shine(10), x -> x.silt(0, 1), x -> x.silt(9, 1),
            x -> x.dry(1), x -> x.dry(0), x -> x.pour(0, 1), x -> x.pour(3, 1), x -> x.cracks(0), x -> x.cracks(4), x -> x.way(3, 3),
            x -> x.way(9, 9), x -> x.when(0), x -> x.when(9), x -> x.opens(), x -> x.bars(0), x -> x.bars(21), x -> x.dates(0), x -> x.dates(-1),
            x -> x.reading(0, 0, 0), x -> x.reading(0, 0, 2), x -> x.back(1), x -> x.back(9), x -> x.wets(0), x -> x.wets(9), x -> x.kinds(0),
            x -> x.kinds(9), x -> x.suns(), x -> x.odds(0), x -> x.odds(2), x -> x.lose(0), x -> x.lose(4), x -> x.lose(2), x -> x.tell(0),
            x -> x.tell(9), x -> x.draw(0), x -> x.draw(9), x -> x.trace(), x -> x.fault(), x -> x.many(0), x -> x.many(6)};
        for (int k = 0; k < none.length; k++) {
            DriedMap x = States.small();
            x.sheet(0, 0, -1);
            none[k].on(x);
            e.is("the FAULT stays behind call " + k, x.fault(), 4);
        }
    }

    private void many() {
        e.by(31, "How many: 0 WIDE, 1 LONG, 2 SUN, 3 the HOUR, 4 CRACKED ones, 5 READINGS");
        int[][] want = {{2, 2, 2, 1, 1, 3}, {4, 3, 1, 2, 3, 8}};
        for (int what = 0; what <= 5; what++) {
            int asked = what;
            e.leaves("many(" + asked + ") of 2 by 2", States::small, x -> x.many(asked), want[0][asked]);
            e.leaves("many(" + asked + ") of 4 by 3", States::large, x -> x.many(asked), want[1][asked]);
        }
        e.is("none CRACKED", Due.bayOf("b043" + "m1".repeat(12)).many(4), 0);
        e.is("all CRACKED", Due.bayOf("b043" + "m0".repeat(12)).many(4), 12);
        e.is("the strongest SUN", Due.bayOf("b922m1m1m1m1").many(2), 9);
        e.by(31, "(0 all without a BAY).");
        for (int what = 0; what <= 5; what++) {
            int asked = what;
            e.leaves("many(" + asked + ") without a BAY", States::noBay, x -> x.many(asked), 0);
        }
        DriedMap y = new DriedMap();
        y.shine(9);
        y.dry(30);
        y.reading(0, 0, 0);
        e.is("a TEXT that is not taken", Due.take(y, "b943m0m0m0"), -110);
        for (int what = 0; what <= 5; what++) {
            e.is("many(" + what + ") behind calls that were refused", y.many(what), 0);
        }
        e.by(31, "without a BAY). OUTSIDE.");
        for (int what : new int[] {-1, 6, MIN, MAX}) {
            e.refuses("OUTSIDE", "many(" + what + ")", States::small, x -> x.many(what));
            e.refuses("OUTSIDE", "many(" + what + ") without a BAY", States::noBay, x -> x.many(what));
        }
    }
}
