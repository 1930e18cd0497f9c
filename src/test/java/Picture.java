/** All that can be asked of an object but fault(), as one text; READINGS are taken back by it, one by one. */
final class Picture {
    private Picture() {
    }

    static String of(DriedMap x) {
        StringBuilder s = new StringBuilder();
        s.append("trace ").append(x.trace()).append(", many");
        for (int what = 0; what <= 5; what++) {
            s.append(' ').append(x.many(what));
        }
        int cells = x.many(0) * x.many(1);
        s.append(", cells");
        for (int c = 0; c <= cells; c++) {
            s.append(' ').append(x.ofCell(c, 0)).append(':').append(x.ofCell(c, 1));
        }
        for (int k = 0; k <= 3; k++) {
            s.append(", sheet ").append(k).append(row(x, k));
        }
        s.append(", readings").append(readings(x, cells));
        return s.toString();
    }

    private static String row(DriedMap x, int k) {
        for (int lane = 0; lane <= 2; lane++) {
            long first = x.cell(k, 0, lane);
            int fault = x.fault();
            if (fault == 1) {
                return " nothing";
            }
            if (fault != 2) {
                return " lane " + lane + numbers(x, k, lane, first);
            }
        }
        return " ?";
    }

    private static String numbers(DriedMap x, int k, int lane, long first) {
        StringBuilder s = new StringBuilder();
        long number = first;
        for (int i = 1; number != Due.LOST && i <= 60; i++) {
            s.append(' ').append(number);
            number = x.cell(k, i, lane);
        }
        return s.toString();
    }

    private static String readings(DriedMap x, int cells) {
        StringBuilder s = new StringBuilder();
        for (int count = x.many(5); count > 0; count--) {
            s.append(" (").append(x.suns());
            for (int c = 0; c < cells; c++) {
                s.append(' ').append(x.wets(c));
            }
            s.append(')');
            x.back(1);
        }
        return s.toString();
    }
}
