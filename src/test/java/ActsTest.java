/** Promises 27 to 32: ACTS, THE TRACE, KINDS, THE IMAGE, counts. */
final class ActsTest {
    private static final Check check = new Check("ActsTest");

    public static void main(String[] args) {
        bodies();
        wrapping();
        refusedActs();
        as();
        image();
        imageOfValley();
        imageOfLaws();
        imageAgain();
        count();
        check.end();
    }

    private static StepOwed third(int kind, int v) {
        StepOwed x = new StepOwed();
        x.person(0, 0, 0, 0);
        x.person(0, 0, 0, 0);
        x.person(kind, v, 0, 0);
        return x;
    }

    private static void act(int kind, int act, int due, int... trace) {
        StepOwed x = third(kind, 3);
        String call = "act " + act + " of kind " + kind;
        x.act(0, 2, 1);
        check.due(call, x.act(2, act, 5), due);
        for (int i = 0; i < trace.length; i++) check.due(call + ", body " + i, x.trace(i), trace[i]);
        check.due(call + ", no more bodies", x.trace(trace.length), StepOwed.NONE);
        check.due(call + ", trace(-1)", x.trace(-1), StepOwed.NONE);
        check.due(call + ", count(5)", x.count(5), trace.length);
        check.due(call + ", trace(20)", x.trace(20), StepOwed.NONE);
    }

    /** Of number 2, v 3, x 5. */
    private static void bodies() {
        act(0, 0, 7, 1);
        act(0, 1, 4, 2, 1);
        act(0, 2, 8, 3, 2, 1);
        act(1, 0, 17, 11, 1);
        act(1, 1, 14, 2, 11, 1);
        act(1, 2, 28, 3, 2, 11, 1);
        act(2, 0, 7, 1);
        act(2, 1, -4, 21, 2, 1);
        act(2, 2, -8, 3, 21, 2, 1);
        act(3, 0, 7, 1);
        act(3, 1, 4, 2, 1);
        act(3, 2, 15, 31, 3, 2, 1);
        act(4, 0, 17, 11, 1);
        act(4, 1, 14, 2, 11, 1);
        act(4, 2, 30, 41, 3, 2, 11, 1, 11, 1);
        act(5, 0, 5, 51, 1);
        act(5, 1, -2, 21, 2, 51, 1);
        act(5, 2, -4, 3, 21, 2, 51, 1);
        act(6, 0, 7, 1);
        act(6, 1, 7, 61, 2, 1);
        act(6, 2, 9, 31, 3, 61, 2, 1);
    }

    private static void wrapping() {
        StepOwed x = third(0, 3);
        check.due("goes of MAX", x.act(2, 0, Integer.MAX_VALUE), Integer.MIN_VALUE + 1);
        check.due("pays of MIN", x.act(0, 1, Integer.MIN_VALUE), Integer.MIN_VALUE);
        check.due("pays of MIN by v 3", x.act(2, 1, Integer.MIN_VALUE), Integer.MAX_VALUE);
        check.due("tells of MAX", x.act(0, 2, Integer.MAX_VALUE), -2);
        StepOwed y = third(1, 0);
        check.due("SWIFT goes of 1000000000", y.act(2, 0, 1000000000), 1000000000 * 3 + 2);
        StepOwed z = third(2, 2);
        check.due("SHY pays of MIN", z.act(2, 1, Integer.MIN_VALUE), Integer.MIN_VALUE);
        StepOwed r = third(4, 0);
        check.due("RICH tells of MIN", r.act(2, 2, Integer.MIN_VALUE), ((Integer.MIN_VALUE - 1) * 3 + 2) * 2 + 8);
    }

    private static void refusedActs() {
        StepOwed x = third(4, 1);
        int[][] wrong = {{3, 0}, {-1, 0}, {0, 3}, {0, -1}, {9, 9}, {Integer.MAX_VALUE, 0}, {0, Integer.MIN_VALUE}};
        for (int[] w : wrong) {
            x.act(2, 2, 5);
            check.due("a trace ahead", x.count(5), 7);
            check.due("act(" + w[0] + ", " + w[1] + ")", x.act(w[0], w[1], 5), 0);
            check.due("no trace then", x.trace(0), StepOwed.NONE);
            check.due("count(5) then", x.count(5), 0);
        }
        StepOwed y = new StepOwed();
        check.due("nobody", y.act(0, 0, 5), 0);
        check.due("trace(0)", y.trace(0), StepOwed.NONE);
        check.due("trace(MAX)", y.trace(Integer.MAX_VALUE), StepOwed.NONE);
        check.due("trace(MIN)", y.trace(Integer.MIN_VALUE), StepOwed.NONE);
    }

    private static void as() {
        int[] above = {-1, 0, 0, 0, 1, 2, 3};
        for (int kind = 0; kind < 7; kind++) {
            StepOwed x = third(kind, kind + 2);
            for (int k = 0; k < 7; k++) {
                boolean is = k == kind || k == above[kind] || k == 0;
                check.due("as(" + kind + ", " + k + ")", x.as(2, k), is ? kind + 2 : -6);
            }
            check.refused(x, "as(2, 7)", () -> x.as(2, 7), StepOwed.NONE);
            check.refused(x, "as(2, -1)", () -> x.as(2, -1), StepOwed.NONE);
            check.refused(x, "as(3, 0)", () -> x.as(3, 0), StepOwed.NONE);
            check.refused(x, "as(-1, 0)", () -> x.as(-1, 0), StepOwed.NONE);
        }
    }

    private static void image() {
        StepOwed x = new StepOwed();
        check.refused(x, "undo() without", x::undo, StepOwed.STATE);
        x.wall(7, true);
        x.person(6, 4, 0, 20);
        x.person(1, 0, 30, 5);
        x.owe(0, 1, 30);
        x.owe(1, 0, 2);
        x.row(0, 0, 1);
        x.row(0, 1, 3);
        Check.law(x, "earn 3 p=0");
        Check.feed(x, "rest ");
        x.track(1);
        x.book(0, 1, 1);
        x.day();
        x.act(0, 2, 5);
        String before = Check.state(x);
        check.due("image()", x.image(), 2);
        check.due("the image changes nothing", Check.state(x).equals(before));
        x.wall(7, false);
        x.wall(8, true);
        x.person(2, 0, 14, 1);
        x.owe(0, 1, 0);
        x.owe(2, 0, 5);
        x.row(0, 1, 2);
        x.row(0, 2, 1);
        Check.feed(x, "x");
        check.due("a fault", x.law(), -16);
        Check.law(x, "earn 9 p=0;come 1");
        Check.feed(x, "come");
        x.track(2);
        x.track(3);
        x.book(1, 1, 1);
        x.day();
        x.day();
        check.due("all is other", !Check.state(x).equals(before));
        check.due("undo()", x.undo(), 2);
        check.due("all is as it was", Check.state(x).equals(before));
        check.due("the wall", x.wall(7, true), 1);
        check.due("no wall", x.wall(8, true), 0);
        check.due("row", x.row(0, 1, 0), 3);
        check.due("row", x.row(0, 2, 0), 0);
        Check.feed(x, "p=0");
        check.due("the tape goes on", x.law(), 1);
        check.due("as it says", x.of(0, 7), 0);
        x.book(-1, 0, 0);
        x.track(-1);
        check.due("undo() again", x.undo(), 2);
        check.due("all is as it was again", Check.state(x).equals(before));
    }

    private static void imageOfValley() {
        StepOwed x = new StepOwed();
        x.valley(8, 7);
        x.wall(55, true);
        check.due("image() of nobody", x.image(), 0);
        x.valley(2, 3);
        x.person(0, 0, 0, 0);
        check.due("undo()", x.undo(), 0);
        check.due("nobody", x.count(0), 0);
        check.due("the wall", x.wall(55, true), 1);
        check.due("so many cells", x.valley(3, 3), 56);
        x.undo();
        check.due("person 0 again", x.person(3, 5, 50, 7), 0);
        check.due("of another kind", x.of(0, 0), 3);
        check.due("with its v", x.of(0, 1), 5);
        check.due("with no debts", x.of(0, 5), 0);
        x.undo();
        x.person(6, 0, 0, 0);
        x.person(0, 0, 20, 0);
        x.owe(0, 1, 9);
        for (int k = 0; k < 4; k++) x.row(0, k, 1);
        x.undo();
        check.due("TOLD 0 once more", x.person(6, 0, 0, 0), 0);
        check.due("it owes nothing", x.of(0, 5), 0);
        for (int k = 0; k < 4; k++) check.due("its ROW is 0 at first", x.row(0, k, 2), 0);
    }

    private static void imageOfLaws() {
        StepOwed x = new StepOwed();
        x.person(0, 0, 0, 0);
        Check.law(x, "earn 1 p=0");
        Check.law(x, "earn 2 p=0");
        x.image();
        for (int k = 3; k < 6; k++) check.due("law", Check.law(x, "earn " + k + " p=0"), k - 1);
        check.due("FULL", x.law(), StepOwed.FULL);
        check.due("the fifth holds", x.of(0, 8), 5);
        x.undo();
        check.due("the second holds", x.of(0, 8), 2);
        check.due("two laws", x.count(1), 2);
        check.due("a third again", Check.law(x, "earn 9 p=0"), 2);
        check.due("it holds", x.of(0, 8), 9);
        check.due("in days, too", x.on(0, 1, 1), 9);
        StepOwed y = new StepOwed();
        y.person(0, 0, 0, 0);
        y.image();
        Check.law(y, "earn 1 p=0;rest p=0");
        y.undo();
        check.due("no law again", y.of(0, 8), 0);
        check.due("no rest again", y.of(0, 7), 1);
        check.due("law 0 again", Check.law(y, "come 1"), 0);
    }

    private static void imageAgain() {
        StepOwed x = new StepOwed();
        x.person(0, 0, 0, 1);
        x.image();
        x.person(0, 0, 0, 2);
        check.due("a newer image", x.image(), 2);
        x.person(0, 0, 0, 3);
        check.due("undo()", x.undo(), 2);
        check.due("still the newer one", x.undo(), 2);
        check.due("purse", x.of(1, 4), 2);
        // THE TRACE is of the latest act, whatever THE IMAGE.
        x.act(0, 0, 1);
        x.image();
        x.act(0, 2, 1);
        x.undo();
        check.due("the trace stays", x.count(5), 3);
        check.due("the trace stays", x.trace(0), 3);
    }

    private static void count() {
        StepOwed x = new StepOwed();
        x.person(0, 0, 0, 0);
        x.person(0, 0, 0, 0);
        Check.law(x, "come 1");
        Check.law(x, "come 1");
        Check.law(x, "come 1");
        for (int k = 0; k < 4; k++) x.track(0);
        for (int k = 0; k < 5; k++) x.book(0, 0, 0);
        Check.feed(x, "abcdef");
        x.act(0, 1, 0);
        int[] due = {2, 3, 4, 5, 6, 2};
        for (int what = 0; what < 6; what++) check.due("count(" + what + ")", x.count(what), due[what]);
        check.due("count(6)", x.count(6), StepOwed.NONE);
        check.due("count(-1)", x.count(-1), StepOwed.NONE);
        check.due("count(MAX)", x.count(Integer.MAX_VALUE), StepOwed.NONE);
        check.due("count(MIN)", x.count(Integer.MIN_VALUE), StepOwed.NONE);
    }
}
