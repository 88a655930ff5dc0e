import java.util.function.LongSupplier;

/** Counts the answers of one test and tells those that are not as due. */
final class Check {
    private final String test;
    private int asked;
    private int wrong;

    Check(String test) {
        this.test = test;
    }

    void due(String call, long got, long want) {
        asked++;
        if (got == want) return;
        wrong++;
        if (wrong <= 40) System.out.println(test + ": " + call + " answered " + got + ", due is " + want);
    }

    void due(String what, boolean got) {
        due(what, got ? 1 : 0, 1);
    }

    /** The call must answer so, and nothing that can be seen may be other than before. */
    void refused(StepOwed x, String call, LongSupplier answer, long want) {
        String before = state(x);
        due(call, answer.getAsLong(), want);
        due(call + " changed nothing", state(x).equals(before));
    }

    /** All that can be seen of an object without changing it. */
    static String state(StepOwed x) {
        StringBuilder t = new StringBuilder();
        t.append(x.now()).append(' ');
        for (int what = 0; what < 6; what++) t.append(x.count(what)).append(',');
        for (int i = 0; i < 20; i++) t.append(x.trace(i)).append(',');
        for (int p = 0; p < 4; p++) {
            t.append('\n');
            for (int what = 0; what < 24; what++) t.append(x.of(p, what)).append(',');
            for (int n = 0; n <= 9; n++) t.append(x.on(p, n, 0)).append('/').append(x.on(p, n, 1)).append(',');
            t.append(x.owed(p));
        }
        // Which cells there are, and which have walls, shows by this alone.
        for (int cell = 0; cell < 64; cell++) t.append(x.late(0, cell)).append(',');
        t.append(x.looked());
        return t.toString();
    }

    int wrong() {
        return wrong;
    }

    /** Feeds a text, sign by sign. */
    static void feed(StepOwed x, String text) {
        for (int k = 0; k < text.length(); k++) x.feed(text.charAt(k));
    }

    static int law(StepOwed x, String text) {
        feed(x, text);
        return x.law();
    }

    void end() {
        System.out.println(test + ": " + (asked - wrong) + " of " + asked + " answers as due");
        if (wrong != 0) System.exit(1);
    }
}
