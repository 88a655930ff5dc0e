/** Promises 1 and 4 to 9: a new object, the valley, people, debts, rows. */
final class PeopleTest {
    private static final Check check = new Check("PeopleTest");

    public static void main(String[] args) {
        fresh();
        valley();
        wall();
        person();
        refusedPeople();
        of();
        owe();
        row();
        check.end();
    }

    private static void fresh() {
        StepOwed x = new StepOwed();
        for (int what = 0; what < 6; what++) check.due("count(" + what + ")", x.count(what), 0);
        check.due("now()", x.now(), 0);
        check.due("of(0, 0)", x.of(0, 0), StepOwed.NONE);
        check.due("spot() of nobody", x.spot(), 0);
        check.due("looked()", x.looked(), -5);
        check.due("undo()", x.undo(), StepOwed.STATE);
        check.due("trace(0)", x.trace(0), StepOwed.NONE);
        for (int cell = 0; cell < 36; cell++) check.due("a wall ahead", x.wall(cell, true), 0);
        check.due("wall(36)", x.wall(36, true), StepOwed.NONE);
        StepOwed y = new StepOwed();
        check.due("valley", y.valley(2, 2), 36);
        // Six wide: 1 below 0 is 6.
        StepOwed z = new StepOwed();
        z.person(0, 0, 0, 0);
        z.person(0, 0, 6, 0);
        z.owe(0, 1, 1);
        z.day();
        check.due("a step down", z.of(0, 3), 6);
    }

    private static void valley() {
        StepOwed x = new StepOwed();
        check.refused(x, "valley(1, 2)", () -> x.valley(1, 2), StepOwed.BAD);
        check.refused(x, "valley(2, 1)", () -> x.valley(2, 1), StepOwed.BAD);
        check.refused(x, "valley(9, 2)", () -> x.valley(9, 2), StepOwed.BAD);
        check.refused(x, "valley(2, 9)", () -> x.valley(2, 9), StepOwed.BAD);
        check.refused(x, "valley(-3, -3)", () -> x.valley(-3, -3), StepOwed.BAD);
        check.due("valley(8, 8)", x.valley(8, 8), 36);
        check.due("wall(63)", x.wall(63, true), 0);
        check.due("wall(64)", x.wall(64, true), StepOwed.NONE);
        check.due("wall(3)", x.wall(3, true), 0);
        check.due("valley(2, 3)", x.valley(2, 3), 64);
        check.due("no walls then", x.wall(3, true), 0);
        check.due("six cells", x.wall(6, true), StepOwed.NONE);
        check.due("valley(8, 2)", x.valley(8, 2), 6);
        check.due("valley(2, 8)", x.valley(2, 8), 16);
        x.person(0, 0, 0, 0);
        check.refused(x, "valley(3, 3)", () -> x.valley(3, 3), StepOwed.STATE);
        check.refused(x, "BAD ahead of STATE", () -> x.valley(1, 3), StepOwed.BAD);
        check.refused(x, "BAD ahead of STATE", () -> x.valley(3, 9), StepOwed.BAD);
    }

    private static void wall() {
        StepOwed x = new StepOwed();
        check.due("wall(7, false)", x.wall(7, false), 0);
        check.due("wall(7, true)", x.wall(7, true), 0);
        check.due("wall(7, true) again", x.wall(7, true), 1);
        check.due("wall(7, false)", x.wall(7, false), 1);
        check.due("wall(7, false) again", x.wall(7, false), 0);
        check.due("wall(0, true)", x.wall(0, true), 0);
        check.due("wall(0, false)", x.wall(0, false), 1);
        x.person(0, 0, 0, 0);
        x.person(0, 0, 3, 0);
        x.owe(0, 1, 5);
        x.day();
        check.refused(x, "wall(-1)", () -> x.wall(-1, true), StepOwed.NONE);
        check.refused(x, "wall(36)", () -> x.wall(36, true), StepOwed.NONE);
        check.refused(x, "a home that is left", () -> x.wall(0, true), StepOwed.STATE);
        check.refused(x, "where one is", () -> x.wall(1, true), StepOwed.STATE);
        check.refused(x, "home of the second", () -> x.wall(3, true), StepOwed.STATE);
        check.refused(x, "no wall at a home, too", () -> x.wall(0, false), StepOwed.STATE);
        check.refused(x, "no wall where one is, too", () -> x.wall(1, false), StepOwed.STATE);
        check.due("wall(2)", x.wall(2, true), 0);
        x.day();
        check.due("it keeps one off", x.of(0, 3), 1);
        check.due("wall(2, false)", x.wall(2, false), 1);
        x.day();
        check.due("and then does not", x.of(0, 3), 2);
    }

    private static void person() {
        StepOwed x = new StepOwed();
        for (int i = 0; i < 4; i++) check.due("person " + i, x.person(i == 3 ? 6 : i, i * 3, 35 - i, i * 333), i);
        check.due("count(0)", x.count(0), 4);
        check.due("kind", x.of(3, 0), 6);
        check.due("v", x.of(3, 1), 9);
        check.due("home", x.of(3, 2), 32);
        check.due("is", x.of(3, 3), 32);
        check.due("purse", x.of(3, 4), 999);
        check.due("debts", x.of(3, 5), 0);
        check.due("kind of 2", x.of(2, 0), 2);
        check.due("home of 0", x.of(0, 2), 35);
        StepOwed y = new StepOwed();
        check.due("one", y.person(4, 0, 5, 0), 0);
        check.due("another at the same cell", y.person(5, 0, 5, 0), 1);
        check.due("kind", y.of(0, 0), 4);
        check.due("kind", y.of(1, 0), 5);
    }

    private static void refusedPeople() {
        StepOwed x = new StepOwed();
        x.wall(7, true);
        check.refused(x, "kind 7", () -> x.person(7, 0, 0, 0), StepOwed.NONE);
        check.refused(x, "kind -1", () -> x.person(-1, 0, 0, 0), StepOwed.NONE);
        check.refused(x, "home 36", () -> x.person(0, 0, 36, 0), StepOwed.NONE);
        check.refused(x, "home -1", () -> x.person(0, 0, -1, 0), StepOwed.NONE);
        check.refused(x, "v 10", () -> x.person(0, 10, 0, 0), StepOwed.BAD);
        check.refused(x, "v -1", () -> x.person(0, -1, 0, 0), StepOwed.BAD);
        check.refused(x, "purse 1000", () -> x.person(0, 0, 0, 1000), StepOwed.BAD);
        check.refused(x, "purse -1", () -> x.person(0, 0, 0, -1), StepOwed.BAD);
        check.refused(x, "home with a wall", () -> x.person(0, 0, 7, 0), StepOwed.STATE);
        check.refused(x, "NONE of kind ahead of BAD", () -> x.person(7, 10, 0, 0), StepOwed.NONE);
        check.refused(x, "NONE of home ahead of BAD", () -> x.person(0, 10, 36, 0), StepOwed.NONE);
        check.refused(x, "BAD v ahead of STATE", () -> x.person(0, 10, 7, 0), StepOwed.BAD);
        check.refused(x, "BAD purse ahead of STATE", () -> x.person(0, 0, 7, 1000), StepOwed.BAD);
        for (int i = 0; i < 4; i++) x.person(0, 0, i, 0);
        check.refused(x, "a fifth", () -> x.person(0, 0, 0, 0), StepOwed.FULL);
        check.refused(x, "STATE ahead of FULL", () -> x.person(0, 0, 7, 0), StepOwed.STATE);
        check.refused(x, "BAD ahead of FULL", () -> x.person(0, 10, 0, 0), StepOwed.BAD);
        check.refused(x, "NONE ahead of FULL", () -> x.person(0, 0, 36, 0), StepOwed.NONE);
    }

    private static void of() {
        StepOwed x = new StepOwed();
        int[] steps = {1, 2, 1, 1};
        for (int i = 0; i < 4; i++) x.person(i, 3, i, 50);
        for (int i = 0; i < 4; i++) check.due("steps of kind " + i, x.of(i, 7), steps[i]);
        check.due("aim without debts", x.of(0, 6), -5);
        check.due("aim of HOMING without debts", x.of(3, 6), 3);
        x.owe(0, 3, 11);
        x.owe(0, 1, 22);
        x.owe(0, 2, 33);
        check.due("aim", x.of(0, 6), 3);
        check.due("debts", x.of(0, 5), 3);
        int[] to = {3, 1, 2};
        for (int k = 0; k < 3; k++) {
            check.due("whom " + k, x.of(0, 10 + k), to[k]);
            check.due("sum " + k, x.of(0, 20 + k), 11 * (k + 1));
        }
        for (int what : new int[] {-1, 9, 13, 14, 19, 23, 24, 30, -5, Integer.MAX_VALUE, Integer.MIN_VALUE}) {
            check.refused(x, "of(0, " + what + ")", () -> x.of(0, what), StepOwed.NONE);
        }
        check.due("no debt of 1", x.of(1, 10), StepOwed.NONE);
        check.due("no sum of 1", x.of(1, 20), StepOwed.NONE);
        for (int who : new int[] {-1, 4, Integer.MAX_VALUE, Integer.MIN_VALUE}) {
            for (int what = 0; what < 9; what++) check.due("of(" + who + ")", x.of(who, what), StepOwed.NONE);
        }
        Check.law(x, "earn 12 p=1;rest p=2;come 1");
        check.due("earns", x.of(1, 8), 12);
        check.due("goes none", x.of(2, 7), 0);
        check.due("aim at a debtor", x.of(2, 6), 0);
    }

    private static void owe() {
        StepOwed x = new StepOwed();
        for (int i = 0; i < 4; i++) x.person(0, 0, i, 0);
        check.due("a debt", x.owe(0, 2, 30), 1);
        check.due("behind it", x.owe(0, 1, 20), 2);
        check.due("behind them", x.owe(0, 3, 99), 3);
        check.due("the sum becomes that", x.owe(0, 1, 1), 3);
        check.due("the order stays: 0", x.of(0, 10), 2);
        check.due("the order stays: 1", x.of(0, 11), 1);
        check.due("the order stays: 2", x.of(0, 12), 3);
        check.due("sum 0", x.of(0, 20), 30);
        check.due("sum 1", x.of(0, 21), 1);
        check.due("sum 2", x.of(0, 22), 99);
        check.due("nothing any more", x.owe(0, 2, 0), 2);
        check.due("the next moves up", x.of(0, 10), 1);
        check.due("and the next", x.of(0, 11), 3);
        check.due("with its sum", x.of(0, 21), 99);
        check.due("two are left", x.of(0, 12), StepOwed.NONE);
        check.due("nothing to whom nothing is owed", x.owe(0, 2, 0), 2);
        check.due("again, at the end", x.owe(0, 2, 7), 3);
        check.due("at the end", x.of(0, 12), 2);
        check.due("the last away", x.owe(0, 2, 0), 2);
        check.due("the middle away", x.owe(0, 3, 0), 1);
        check.due("all away", x.owe(0, 1, 0), 0);
        check.due("others owe, too", x.owe(3, 0, 5), 1);
        check.due("0 owes nothing", x.of(0, 5), 0);
        check.refused(x, "owe(4, 0, 1)", () -> x.owe(4, 0, 1), StepOwed.NONE);
        check.refused(x, "owe(0, 4, 1)", () -> x.owe(0, 4, 1), StepOwed.NONE);
        check.refused(x, "owe(-1, 0, 1)", () -> x.owe(-1, 0, 1), StepOwed.NONE);
        check.refused(x, "owe(0, -1, 1)", () -> x.owe(0, -1, 1), StepOwed.NONE);
        check.refused(x, "owe(9, 9, 1)", () -> x.owe(9, 9, 1), StepOwed.NONE);
        check.refused(x, "owe(0, 9, 100)", () -> x.owe(0, 9, 100), StepOwed.NONE);
        check.refused(x, "owe(2, 2, 1)", () -> x.owe(2, 2, 1), StepOwed.BAD);
        check.refused(x, "owe(3, 0, 100)", () -> x.owe(3, 0, 100), StepOwed.BAD);
        check.refused(x, "owe(3, 0, -1)", () -> x.owe(3, 0, -1), StepOwed.BAD);
    }

    private static void row() {
        StepOwed x = new StepOwed();
        x.person(6, 0, 14, 0);
        x.person(3, 0, 0, 0);
        for (int k = 0; k < 4; k++) check.due("0 at first", x.row(0, k, k + 1), 0);
        for (int k = 0; k < 4; k++) check.due("what it was", x.row(0, k, 4 - k), k + 1);
        check.due("what it was", x.row(0, 3, 0), 1);
        check.due("0 again", x.row(0, 3, 1), 0);
        // The ROW is now 4 3 2 1: up, down, left, right.
        x.owe(0, 1, 9);
        int[] at = {8, 14, 13, 14, 8, 14};
        for (int n = 0; n < at.length; n++) check.due("by its row on " + (n + 1), x.on(0, n + 1, 0), at[n]);
        check.refused(x, "row(2, 0, 0)", () -> x.row(2, 0, 0), StepOwed.NONE);
        check.refused(x, "row(-1, 0, 0)", () -> x.row(-1, 0, 0), StepOwed.NONE);
        check.refused(x, "row(0, 4, 0)", () -> x.row(0, 4, 0), StepOwed.NONE);
        check.refused(x, "row(0, -1, 0)", () -> x.row(0, -1, 0), StepOwed.NONE);
        check.refused(x, "row(0, 0, 5)", () -> x.row(0, 0, 5), StepOwed.BAD);
        check.refused(x, "row(0, 0, -1)", () -> x.row(0, 0, -1), StepOwed.BAD);
        check.refused(x, "row(1, 0, 0)", () -> x.row(1, 0, 0), StepOwed.STATE);
        check.refused(x, "NONE ahead of BAD", () -> x.row(0, 4, 5), StepOwed.NONE);
        check.refused(x, "NONE ahead of STATE", () -> x.row(1, 4, 0), StepOwed.NONE);
        check.refused(x, "BAD ahead of STATE", () -> x.row(1, 0, 5), StepOwed.BAD);
    }
}
