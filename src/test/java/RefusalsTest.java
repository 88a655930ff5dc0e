import java.util.HashMap;
import java.util.List;
import java.util.Map;
import java.util.function.Supplier;
import java.util.function.ToLongFunction;

/**
 * Number 3 of the document: what each call refuses. Each number is tried at
 * the last that is taken and at the first that is refused, on both sides, and
 * with each number of each other argument, so that of several refusals the
 * first one told must come; and a refused call must leave an object alike to
 * one that was not asked so.
 */
final class RefusalsTest {
    private static final Check check = new Check("RefusalsTest");

    private static final int NONE = StepOwed.NONE, BAD = StepOwed.BAD, STATE = StepOwed.STATE, FULL = StepOwed.FULL;
    /** What is due of a call that is not refused, whatever it answers then; ASKED: it changes nothing even so. */
    private static final int TAKEN = 1 << 20, ASKED = 1 << 21;

    private static final int WALL = Scenes.WALL, HOME = Scenes.HOME, AT = Scenes.AT;

    private final Supplier<StepOwed> scene;
    private static final Map<Supplier<StepOwed>, List<String>> shown = new HashMap<>();

    private RefusalsTest(Supplier<StepOwed> scene) {
        this.scene = scene;
    }

    public static void main(String[] args) {
        RefusalsTest nobody = new RefusalsTest(Scenes::nobody);
        RefusalsTest pair = new RefusalsTest(Scenes::pair);
        RefusalsTest crowd = new RefusalsTest(Scenes::crowd);
        RefusalsTest full = new RefusalsTest(Scenes::full);
        tapes(nobody, crowd);
        nobody.people(0);
        pair.people(2);
        crowd.people(4);
        nobody.asked(0);
        pair.asked(2);
        crowd.asked(4);
        crowd.rowsOf();
        crowd.walls();
        nobody.told(0, false);
        crowd.told(4, false);
        full.told(4, true);
        nobody.imageAndCounts(0, false);
        crowd.imageAndCounts(5, true);
        owesAll();
        check.end();
    }

    // ---- how a call is tried

    private static int[] around(int first, int last) {
        return new int[] {Integer.MIN_VALUE, first - 1, first, last, last + 1, Integer.MAX_VALUE};
    }

    private static boolean outside(int n, int first, int last) {
        return n < first || n > last;
    }

    private void ask(String call, ToLongFunction<StepOwed> answer, long due) {
        StepOwed x = scene.get();
        long got = answer.applyAsLong(x);
        boolean refused = due != TAKEN && due != ASKED;
        if (refused) check.due(call, got, due);
        else check.due(call + " is not refused: " + got, got >= 0 || got == -5 || got == -6 || got == -1001);
        if (due == TAKEN) return;
        List<String> before = shown.computeIfAbsent(scene, s -> Show.all(s.get()));
        String other = Show.difference(Show.all(x), before);
        check.due(call + " changes nothing; but " + other, other == null);
    }

    // ---- promises 2 and 3

    private static void tapes(RefusalsTest... scenes) {
        for (int sign : around(0, 127)) {
            for (RefusalsTest s : scenes) s.ask("feed(" + sign + ")", x -> x.feed(sign), outside(sign, 0, 127) ? BAD : TAKEN);
            RefusalsTest full = new RefusalsTest(Scenes::full);
            full.ask("feed(" + sign + ") to a full tape", x -> x.feed(sign), outside(sign, 0, 127) ? BAD : FULL);
        }
        for (String text : new String[] {"come 1", "x", ""}) {
            new RefusalsTest(() -> fiveLaws(text)).ask("a sixth law of '" + text + "'", StepOwed::law, FULL);
        }
    }

    private static StepOwed fiveLaws(String text) {
        StepOwed x = new StepOwed();
        x.person(0, 0, 0, 0);
        for (int k = 0; k < 5; k++) Check.law(x, "earn " + k + " p=0");
        Check.feed(x, text);
        return x;
    }

    // ---- promises 4, 6, 7, 8

    private void people(int people) {
        for (int wide : around(2, 8)) {
            for (int high : around(2, 8)) {
                boolean bad = outside(wide, 2, 8) || outside(high, 2, 8);
                ask("valley(" + wide + ", " + high + ")", x -> x.valley(wide, high), bad ? BAD : people > 0 ? STATE : TAKEN);
            }
        }
        for (int kind : around(0, 6)) {
            for (int home : new int[] {Integer.MIN_VALUE, -1, 0, WALL, 35, 36, Integer.MAX_VALUE}) {
                boolean none = outside(kind, 0, 6) || outside(home, 0, 35);
                for (int v : around(0, 9)) {
                    for (int purse : around(0, 999)) {
                        boolean bad = outside(v, 0, 9) || outside(purse, 0, 999);
                        int due = none ? NONE : bad ? BAD : home == WALL ? STATE : people == 4 ? FULL : TAKEN;
                        String call = "person(" + kind + ", " + v + ", " + home + ", " + purse + ")";
                        ask(call, x -> x.person(kind, v, home, purse), due);
                    }
                }
            }
        }
        for (int one : around(0, people - 1)) {
            for (int other : around(0, people - 1)) {
                for (int sum : around(0, 99)) owe(people, one, other, sum);
            }
            for (int what = -2; what < 30; what++) of(people, one, what);
            of(people, one, Integer.MIN_VALUE);
            of(people, one, Integer.MAX_VALUE);
        }
    }

    private void owe(int people, int one, int other, int sum) {
        boolean none = outside(one, 0, people - 1) || outside(other, 0, people - 1);
        boolean bad = one == other || outside(sum, 0, 99);
        String call = "owe(" + one + ", " + other + ", " + sum + ")";
        ask(call, x -> x.owe(one, other, sum), none ? NONE : bad ? BAD : TAKEN);
    }

    private void of(int people, int one, int what) {
        boolean is = !outside(one, 0, people - 1);
        int debts = is ? scene.get().of(one, 5) : 0;
        boolean asked = !outside(what, 0, 8) || !outside(what, 10, 9 + debts) || !outside(what, 20, 19 + debts);
        ask("of(" + one + ", " + what + ")", x -> x.of(one, what), is && asked ? ASKED : NONE);
    }

    // ---- promises 5 and 9

    private void walls() {
        for (boolean is : new boolean[] {true, false}) {
            for (int cell : around(0, 35)) {
                // 3 has its home at 35.
                int due = outside(cell, 0, 35) ? NONE : cell == 35 ? STATE : TAKEN;
                ask("wall(" + cell + ", " + is + ")", x -> x.wall(cell, is), due);
            }
            ask("a wall at a home that is left", x -> x.wall(HOME, is), STATE);
            ask("a wall where somebody is", x -> x.wall(AT, is), STATE);
            ask("a wall where one is", x -> x.wall(WALL, is), TAKEN);
        }
        for (int one : around(0, 3)) {
            for (int cell : new int[] {Integer.MIN_VALUE, -1, 0, HOME, WALL, AT, 14, 35, 36, Integer.MAX_VALUE}) {
                boolean none = outside(one, 0, 3) || outside(cell, 0, 35);
                boolean state = cell == HOME || cell == WALL || cell == AT || cell == 35;
                ask("late(" + one + ", " + cell + ")", x -> x.late(one, cell), none ? -1002 : state ? -1003 : ASKED);
            }
        }
    }

    private void rowsOf() {
        for (int one : around(0, 3)) {
            for (int k : around(0, 3)) {
                for (int way : around(0, 4)) {
                    boolean none = outside(one, 0, 3) || outside(k, 0, 3);
                    // Of the crowd only 3 is TOLD.
                    int due = none ? NONE : outside(way, 0, 4) ? BAD : one != 3 ? STATE : TAKEN;
                    ask("row(" + one + ", " + k + ", " + way + ")", x -> x.row(one, k, way), due);
                }
            }
        }
    }

    // ---- promises 12 to 20, 22 to 24, 29

    private void asked(int people) {
        for (int one : around(0, people - 1)) {
            boolean none = outside(one, 0, people - 1);
            ask("free(" + one + ")", x -> x.free(one), none ? NONE : ASKED);
            ask("owed(" + one + ")", x -> x.owed(one), none ? NONE : ASKED);
            for (int n : around(0, 60)) {
                for (int what : around(0, 2)) {
                    int due = none || outside(what, 0, 2) ? NONE : outside(n, 0, 60) ? BAD : ASKED;
                    ask("on(" + one + ", " + n + ", " + what + ")", x -> x.on(one, n, what), due);
                }
            }
            for (int what : around(0, 1)) {
                for (int n : around(0, 30)) {
                    int due = none || outside(what, 0, 1) ? NONE : outside(n, 0, 30) ? BAD : ASKED;
                    ask("sit(" + one + ", " + n + ", " + what + ")", x -> x.sit(one, n, what), due);
                }
                for (int cell : around(0, 35)) {
                    int due = none || outside(what, 0, 1) || outside(cell, 0, 35) ? NONE : ASKED;
                    ask("whom(" + one + ", " + cell + ", " + what + ")", x -> x.whom(one, cell, what), due);
                }
            }
            for (int k : around(-1, 3)) {
                ask("order(" + one + ", " + k + ")", x -> x.order(one, k), none || outside(k, -1, 3) ? NONE : ASKED);
            }
            for (int k : around(0, 6)) {
                ask("as(" + one + ", " + k + ")", x -> x.as(one, k), none || outside(k, 0, 6) ? NONE : ASKED);
            }
            for (int other : around(0, people - 1)) ofTwo(people, one, other);
        }
        ask("now()", StepOwed::now, ASKED);
        ask("spot()", StepOwed::spot, ASKED);
        ask("looked()", StepOwed::looked, ASKED);
        for (int what : around(0, 1)) {
            ask("again(" + what + ")", x -> x.again(what), outside(what, 0, 1) ? NONE : ASKED);
            for (int n : around(0, 60)) {
                boolean no = outside(n, 0, 60) || outside(what, 0, 1) || people == 0;
                ask("mean(" + n + ", " + what + ")", x -> x.mean(n, what), no ? StepOwed.NO : ASKED);
            }
        }
    }

    private void ofTwo(int people, int one, int other) {
        boolean none = outside(one, 0, people - 1) || outside(other, 0, people - 1);
        ask("meet(" + one + ", " + other + ")", x -> x.meet(one, other), none ? NONE : one == other ? BAD : ASKED);
        // Of the pair 0 owes all others.
        boolean all = people == 2 && one == 0;
        for (int n : around(0, 60)) {
            for (int part : around(0, 1)) {
                boolean no = none || one == other || outside(n, 0, 60) || outside(part, 0, 1) || all;
                String call = "odds(" + one + ", " + other + ", " + n + ", " + part + ")";
                ask(call, x -> x.odds(one, other, n, part), no ? StepOwed.NO : ASKED);
            }
        }
    }

    private static void owesAll() {
        for (int debts = 0; debts < 4; debts++) {
            StepOwed x = new StepOwed();
            for (int i = 0; i < 4; i++) x.person(0, 0, i, 0);
            for (int k = 1; k <= debts; k++) x.owe(0, k, k);
            boolean all = debts == 3;
            check.due("odds, part 0, by " + debts + " debts", (x.odds(0, 1, 0, 0) == StepOwed.NO) == all);
            check.due("odds, part 1, by " + debts + " debts", (x.odds(0, 1, 0, 1) == StepOwed.NO) == all);
            check.due("whom by " + debts + " debts", x.whom(0, 0, 0), all ? -5 : debts + 1);
            check.due("when by " + debts + " debts", x.whom(0, 0, 1), all ? -5 : 0);
        }
    }

    // ---- promises 21 and 25

    private void told(int people, boolean full) {
        for (int cell : new int[] {Integer.MIN_VALUE, -2, -1, 0, 35, 36, Integer.MAX_VALUE}) {
            int due = cell == -1 ? TAKEN : outside(cell, 0, 35) ? NONE : full ? FULL : TAKEN;
            ask("track(" + cell + ")", x -> x.track(cell), due);
            for (int one : new int[] {Integer.MIN_VALUE, -2, -1, 0, people - 1, people, Integer.MAX_VALUE}) {
                boolean none = outside(one, 0, people - 1) || outside(cell, 0, 35);
                for (int n : around(0, 60)) {
                    int of = none ? NONE : outside(n, 0, 60) ? BAD : full ? FULL : TAKEN;
                    String call = "book(" + one + ", " + n + ", " + cell + ")";
                    ask(call, x -> x.book(one, n, cell), one == -1 ? TAKEN : of);
                }
            }
        }
    }

    // ---- promises 28, 31, 32

    private void imageAndCounts(int bodies, boolean image) {
        ask("undo()", StepOwed::undo, image ? TAKEN : STATE);
        for (int what : around(0, 5)) ask("count(" + what + ")", x -> x.count(what), outside(what, 0, 5) ? NONE : ASKED);
        for (int i : new int[] {Integer.MIN_VALUE, -1, 0, bodies - 1, bodies, 19, 20, Integer.MAX_VALUE}) {
            ask("trace(" + i + ")", x -> x.trace(i), outside(i, 0, bodies - 1) ? NONE : ASKED);
        }
    }
}
