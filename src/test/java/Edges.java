import java.util.HashSet;
import java.util.List;
import java.util.Set;

/** Holds calls against sentences of the document: each is named by its promise and quoted. */
final class Edges {
    interface Maker {
        DriedMap make();
    }

    interface Call {
        long on(DriedMap x);
    }

    private static final List<String> REFUSALS = List.of("UNKNOWN", "OUTSIDE", "STATE", "FULL", "NULL", "CAST", "INDEX", "SIZE");
    private static final long[] ANSWERS = {Due.UNKNOWN, Due.OUTSIDE, Due.STATE, Due.FULL, Due.NULL, Due.CAST, Due.INDEX, Due.SIZE};
    private static final Set<Integer> NAMES_FAULTS = Set.of(2, 10, 21, 23, 24, 25, 28), ANSWERS_LONG = Set.of(20, 24);
    static final int[] FAR = {Integer.MIN_VALUE, Integer.MIN_VALUE + 1, -65536, -256, 256, 65536, Integer.MAX_VALUE - 1,
        Integer.MAX_VALUE};

    private final Due due = new Due();
    private final Document document;
    private final Set<String> refused = new HashSet<>();
    private int promise;
    private String sentence = "";

    Edges(Document document) {
        this.document = document;
    }

    /** What follows is asked by these words of a promise, or of the Terms that it uses. */
    void by(int number, String... words) {
        promise = number;
        sentence = String.join(" .. ", words);
        for (String quotation : words) {
            String flaw = document == null ? "" : document.quote(number, quotation);
            if (!flaw.isEmpty()) {
                is("the quotation '" + quotation + "' " + flaw, 0, 1);
            }
        }
    }

    void is(String call, long got, long want) {
        due.is("promise " + promise + ", '" + sentence + "': " + call, got, want);
    }

    /** An answer of a call that names FAULTS and comes to none, which fault() then tells. */
    void is(DriedMap x, String call, long got, long want) {
        is(call, got, want);
        is("fault() behind " + call, x.fault(), 0);
    }

    /** It is refused as told (by name), changes nothing, and fault() tells what it has to. */
    void refuses(String refusal, String call, Maker maker, Call on) {
        int k = REFUSALS.indexOf(refusal);
        refused.add(promise + refusal);
        int fault = ANSWERS[k] <= Due.NULL ? (int) (-10 - ANSWERS[k]) : 0;
        leaves(call, maker, on, ANSWERS_LONG.contains(promise) ? Due.LOST : ANSWERS[k], fault);
    }

    /** It answers as told and changes nothing but, if it names FAULTS, fault(), which becomes 0. */
    void leaves(String call, Maker maker, Call on, long want) {
        leaves(call, maker, on, want, 0);
    }

    private void leaves(String call, Maker maker, Call on, long want, int fault) {
        String ahead = Picture.of(maker.make());
        // Two unlike faults ahead of the call, so that one which only stays is seen.
        for (int k = 0; k < 2; k++) {
            DriedMap x = maker.make();
            int stale = -10 - (k == 0 ? x.put(0, 60, 0) : x.sheet(0, 0, -1));
            is(call, on.on(x), want);
            is("fault() behind " + call, x.fault(), NAMES_FAULTS.contains(promise) ? fault : stale);
            String behind = Picture.of(x);
            if (!behind.equals(ahead)) {
                is(call + " changed\n  " + ahead + " to\n  " + behind, 1, 0);
            }
        }
    }

    void end() {
        if (document == null) {
            System.out.println("there is no ../shared/DOC.md: quotations are not looked at");
        } else {
            everyRefusalWasMet();
            promise = 0;
            sentence = "";
            for (String words : document.unquoted()) {
                is("no test quotes '" + words + "'", 0, 1);
            }
        }
        due.end();
    }

    private void everyRefusalWasMet() {
        for (int number = 1; number <= Document.PROMISES; number++) {
            for (String refusal : REFUSALS) {
                promise = number;
                boolean asked = document.names(number, refusal);
                is("a call that is refused with " + refusal, refused.contains(number + refusal) ? 1 : 0, asked ? 1 : 0);
            }
        }
    }
}
