/** Promises 12 to 20: what is asked of days to come. */
final class DaysToComeTest {
    private static final Check check = new Check("DaysToComeTest");

    public static void main(String[] args) {
        on();
        meet();
        free();
        spot();
        again();
        whom();
        order();
        late();
        sit();
        lastDays();
        check.end();
    }

    private static final int[] WRONG = {-1, 61, 62, 1000, Integer.MAX_VALUE, Integer.MIN_VALUE};

    private static StepOwed two() {
        StepOwed x = Scenes.lineOfPurses(0, 10, 5, 0);
        x.owe(0, 1, 9);
        return x;
    }

    private static void on() {
        StepOwed x = two();
        String before = Check.state(x);
        for (int n = 0; n <= 60; n++) {
            check.due("where on " + n, x.on(0, n, 0), Math.min(n, 5));
            check.due("purse on " + n, x.on(0, n, 1), n < 5 ? 10 : 1);
            check.due("sums on " + n, x.on(0, n, 2), n < 5 ? 9 : 0);
            check.due("purse of 1 on " + n, x.on(1, n, 1), n < 5 ? 0 : 9);
        }
        check.due("asking changes nothing", Check.state(x).equals(before));
        check.refused(x, "on(2, 0, 0)", () -> x.on(2, 0, 0), StepOwed.NONE);
        check.refused(x, "on(-1, 0, 0)", () -> x.on(-1, 0, 0), StepOwed.NONE);
        check.refused(x, "on(0, 0, 3)", () -> x.on(0, 0, 3), StepOwed.NONE);
        check.refused(x, "on(0, 0, -1)", () -> x.on(0, 0, -1), StepOwed.NONE);
        for (int n : WRONG) {
            check.refused(x, "on(0, " + n + ", 0)", () -> x.on(0, n, 0), StepOwed.BAD);
            check.refused(x, "NONE ahead of BAD", () -> x.on(2, n, 0), StepOwed.NONE);
            check.refused(x, "NONE ahead of BAD", () -> x.on(0, n, 3), StepOwed.NONE);
        }
        StepOwed y = Scenes.lineOfPurses(0, 0, 1, 0, 2, 0, 3, 0);
        y.owe(0, 1, 10);
        y.owe(0, 2, 20);
        y.owe(0, 3, 99);
        check.due("sums together", y.on(0, 7, 2), 129);
    }

    private static void meet() {
        StepOwed x = two();
        check.due("meet(0, 1)", x.meet(0, 1), 5);
        check.due("meet(1, 0)", x.meet(1, 0), 5);
        x.day();
        check.due("from now on", x.meet(0, 1), 4);
        for (int n = 0; n < 4; n++) x.day();
        check.due("now", x.meet(0, 1), 0);
        StepOwed y = Scenes.lineOfPurses(0, 0, 5, 0);
        check.due("never", y.meet(0, 1), -5);
        check.refused(y, "meet(0, 2)", () -> y.meet(0, 2), StepOwed.NONE);
        check.refused(y, "meet(2, 0)", () -> y.meet(2, 0), StepOwed.NONE);
        check.refused(y, "meet(-1, -1)", () -> y.meet(-1, -1), StepOwed.NONE);
        check.refused(y, "meet(2, 2)", () -> y.meet(2, 2), StepOwed.NONE);
        check.refused(y, "meet(1, 1)", () -> y.meet(1, 1), StepOwed.BAD);
    }

    private static void free() {
        StepOwed x = two();
        check.due("free(0)", x.free(0), 5);
        check.due("free(1)", x.free(1), 0);
        x.owe(0, 1, 11);
        check.due("too poor", x.free(0), -5);
        Check.law(x, "earn 1 x=5&p=0");
        check.due("till it has earned it", x.free(0), 6);
        check.refused(x, "free(2)", () -> x.free(2), StepOwed.NONE);
        check.refused(x, "free(-1)", () -> x.free(-1), StepOwed.NONE);
    }

    private static void spot() {
        StepOwed x = new StepOwed();
        check.due("nobody", x.spot(), 0);
        x.person(0, 0, 3, 0);
        check.due("one alone", x.spot(), 0);
        x.person(0, 0, 3, 0);
        check.due("two there", x.spot(), 0);
        x.person(0, 0, 5, 0);
        check.due("never", x.spot(), -5);
        x.owe(2, 1, 5);
        check.due("the third comes", x.spot(), 2);
        x.owe(0, 2, 5);
        check.due("0 goes toward it, and then after it", x.spot(), 3);
        x.owe(1, 2, 5);
        check.due("all come between", x.spot(), 1);
        StepOwed y = Scenes.lineOfPurses(0, 0, 4, 0, 7, 0, 7, 0);
        y.owe(0, 3, 1);
        y.owe(1, 2, 1);
        check.due("all four", y.spot(), 7);
    }

    /** TOLD 0 goes to and fro; 1 only stands. */
    private static StepOwed toAndFro() {
        StepOwed x = new StepOwed();
        x.person(6, 0, 0, 0);
        x.person(0, 0, 35, 0);
        x.owe(0, 1, 9);
        return x;
    }

    private static void again() {
        StepOwed x = new StepOwed();
        check.due("nobody, 0", x.again(0), 1);
        check.due("nobody, 1", x.again(1), 1);
        x.person(0, 0, 0, 0);
        check.due("who stands", x.again(0), 1);
        StepOwed y = toAndFro();
        y.row(0, 0, 1);
        y.row(0, 2, 2);
        check.due("to, wait, fro", y.again(0), 3);
        check.due("to, wait, fro", y.again(1), 3);
        y.row(0, 2, 0);
        y.row(0, 3, 2);
        check.due("to, wait, wait, fro", y.again(0), 4);
        y.row(0, 3, 0);
        check.due("never", y.again(1), -5);
        y.row(0, 3, 2);
        Check.law(y, "earn 1 p=1");
        check.due("a purse grows", y.again(0), -5);
        check.due("that does not matter", y.again(1), 4);
        StepOwed z = toAndFro();
        z.person(0, 0, 7, 5);
        z.person(0, 0, 7, 0);
        z.owe(2, 3, 5);
        check.due("debts, purses change", z.again(0), -5);
        check.due("without them", z.again(1), 1);
        Check.law(z, "earn 2 p=2");
        StepOwed w = new StepOwed();
        w.person(0, 0, 7, 0);
        w.person(0, 0, 7, 999);
        w.owe(0, 1, 99);
        Check.law(w, "earn 2 p=0");
        check.due("only a sum changes", w.again(0), -5);
        check.due("only a sum changes, 1", w.again(1), 1);
        // It earns 2 and pays 2 each day, till a debt is gone: purses as now, debts not.
        StepOwed u = new StepOwed();
        u.person(0, 0, 7, 0);
        u.person(0, 0, 7, 999);
        u.owe(0, 1, 4);
        Check.law(u, "earn 2 p=0");
        check.due("a debt is gone", u.again(0), -5);
        check.due("a debt is gone, 1", u.again(1), 1);
        check.refused(w, "again(2)", () -> w.again(2), StepOwed.NONE);
        check.refused(w, "again(-1)", () -> w.again(-1), StepOwed.NONE);
        // 60 days: 5 up, 5 down of a SWIFT's aim would be too short; a rest by days is 7 long.
        StepOwed v = toAndFro();
        v.row(0, 0, 1);
        v.row(0, 2, 2);
        Check.law(v, "rest d>0");
        // It goes on days 0, 7, 14, 21, 28 ..: by 0, 3, 2, 1, 0 ..: right, stay, left.
        check.due("by sevens", v.again(0), 15);
    }

    private static void whom() {
        StepOwed x = Scenes.lineOfPurses(0, 0, 3, 0, 7, 0);
        check.due("of several the least", x.whom(0, 2, 0), 1);
        check.due("when", x.whom(0, 2, 1), 2);
        check.due("only toward 2", x.whom(0, 5, 0), 2);
        check.due("when", x.whom(0, 5, 1), 5);
        check.due("it is there", x.whom(0, 0, 0), 1);
        check.due("now", x.whom(0, 0, 1), 0);
        check.due("nobody: who", x.whom(0, 15, 0), -5);
        check.due("nobody: when", x.whom(0, 15, 1), -5);
        x.owe(0, 1, 5);
        check.due("not whom it owes already", x.whom(0, 2, 0), 2);
        check.due("ahead of its debts", x.whom(0, 6, 1), 6);
        check.due("who is owed comes toward it", x.whom(1, 2, 0), 0);
        check.due("and keeps it there", x.whom(1, 1, 0), -5);
        x.owe(0, 2, 5);
        check.due("it owes all", x.whom(0, 2, 0), -5);
        check.due("it owes all", x.whom(0, 2, 1), -5);
        check.refused(x, "whom(3, 0, 0)", () -> x.whom(3, 0, 0), StepOwed.NONE);
        check.refused(x, "whom(0, 16, 0)", () -> x.whom(0, 16, 0), StepOwed.NONE);
        check.refused(x, "whom(0, -1, 0)", () -> x.whom(0, -1, 0), StepOwed.NONE);
        check.refused(x, "whom(0, 0, 2)", () -> x.whom(0, 0, 2), StepOwed.NONE);
        check.refused(x, "whom(0, 0, -1)", () -> x.whom(0, 0, -1), StepOwed.NONE);
        // A later one is sooner there.
        StepOwed y = new StepOwed();
        y.valley(8, 8);
        y.person(0, 0, 0, 0);
        y.person(0, 0, 57, 0);
        y.person(0, 0, 9, 0);
        check.due("the one by whom it is there first", y.whom(0, 9, 0), 2);
        check.due("of that", y.whom(0, 9, 1), 2);
        // 99 are owed: with 98 it would not be paid, with 100 it would go on.
        StepOwed z = Scenes.lineOfPurses(3, 99, 2, 0, 7, 0);
        z.owe(0, 2, 5);
        check.due("99 are paid", z.whom(0, 5, 1), 4);
        StepOwed v = Scenes.lineOfPurses(3, 104, 2, 0, 5, 0, 7, 0);
        v.owe(0, 2, 5);
        v.owe(0, 3, 7);
        check.due("its own debts are behind, with their sums", v.whom(0, 7, 1), 6);
        StepOwed w = Scenes.lineOfPurses(3, 98, 2, 0, 7, 0);
        w.owe(0, 2, 5);
        check.due("98 do not do", w.whom(0, 5, 1), -5);
    }

    private static void order() {
        StepOwed x = Scenes.lineOfPurses(3, 20, 0, 0, 7, 0);
        check.due("no debts: when", x.order(0, -1), 0);
        for (int k = 0; k < 4; k++) check.refused(x, "no debts: " + k, () -> x.order(0, 0), -5);
        x.owe(0, 2, 5);
        check.due("one debt: when", x.order(0, -1), 4);
        check.due("one debt: whom", x.order(0, 0), 2);
        check.due("one debt: no more", x.order(0, 1), -5);
        x.owe(0, 1, 5);
        check.due("as it is", x.free(0), 11);
        check.due("two: when", x.order(0, -1), 10);
        check.due("two: first", x.order(0, 0), 1);
        check.due("two: then", x.order(0, 1), 2);
        check.due("two: no more", x.order(0, 2), -5);
        check.due("k 3", x.order(0, 3), -5);
        check.due("the row is as it was", x.of(0, 10), 2);
        check.refused(x, "k 4", () -> x.order(0, 4), StepOwed.NONE);
        check.refused(x, "k -2", () -> x.order(0, -2), StepOwed.NONE);
        check.refused(x, "order(3, 0)", () -> x.order(3, 0), StepOwed.NONE);
        x.owe(0, 1, 16);
        check.due("by none: when", x.order(0, -1), -5);
        check.due("by none: whom", x.order(0, 0), -5);
        StepOwed y = Scenes.lineOfPurses(3, 20, 0, 0, 6, 0);
        y.owe(0, 2, 5);
        y.owe(0, 1, 5);
        check.due("alike: when", y.order(0, -1), 9);
        check.due("alike: the first as a row", y.order(0, 0), 1);
        // 1 at 5, 2 at 0, 3 at 7, from 4: 1, 3, 2 takes 1 and 2 and 7.
        StepOwed z = Scenes.lineOfPurses(4, 99, 5, 0, 0, 0, 7, 0);
        z.owe(0, 3, 5);
        z.owe(0, 2, 6);
        z.owe(0, 1, 7);
        check.due("three: when", z.order(0, -1), 10);
        int[] row = {1, 3, 2, -5};
        for (int k = 0; k < 4; k++) check.due("three: " + k, z.order(0, k), row[k]);
        // 2 first is best if it is near: 3, 2, 1 and 2, 3, 1 and so on.
        int[][] homes = {
            {0, 6, 7, 6}, {0, 7, 6, 5}, {5, 0, 7, 6}, {3, 2, 0, 4}, {3, 0, 2, 4}, {2, 3, 0, 4}, {2, 0, 3, 4},
            {0, 3, 2, 4}, {0, 2, 3, 4}, {4, 4, 4, 4}, {7, 0, 7, 3}, {0, 7, 0, 4}};
        for (int[] h : homes) {
            StepOwed w = Scenes.lineOfPurses(h[3], 99, h[0], 0, h[1], 0, h[2], 0);
            w.owe(0, 1, 1);
            w.owe(0, 2, 1);
            w.owe(0, 3, 1);
            int best = 1000;
            String who = "";
            int[][] all = {{1, 2, 3}, {1, 3, 2}, {2, 1, 3}, {2, 3, 1}, {3, 1, 2}, {3, 2, 1}};
            for (int[] o : all) {
                int at = h[3];
                int n = 0;
                for (int i : o) {
                    // Who is where one comes is paid on that day, but none ahead of day 1.
                    n += Math.max(Math.abs(h[i - 1] - at), n == 0 ? 1 : 0);
                    at = h[i - 1];
                }
                if (n < best) {
                    best = n;
                    who = "" + o[0] + o[1] + o[2];
                }
            }
            check.due("when, best", w.order(0, -1), best);
            check.due("row, best", w.order(0, 0) * 100 + w.order(0, 1) * 10 + w.order(0, 2), Integer.parseInt(who));
        }
    }

    private static void late() {
        StepOwed x = new StepOwed();
        x.valley(4, 3);
        x.person(0, 0, 3, 20);
        x.person(0, 0, 6, 20);
        x.person(0, 0, 0, 0);
        x.owe(0, 1, 5);
        x.owe(1, 2, 5);
        check.due("free without", x.free(0), 3);
        check.due("late by 2", x.late(0, 2), 2);
        check.due("sooner by 2", x.late(0, 5), -2);
        check.due("by a cell off the way", x.late(0, 11), 0);
        check.due("one with no debts", x.late(2, 11), 0);
        check.due("no wall stands then", x.wall(2, false), 0);
        x.wall(10, true);
        check.refused(x, "late(3, 0)", () -> x.late(3, 11), -1002);
        check.refused(x, "late(-1, 0)", () -> x.late(-1, 11), -1002);
        check.refused(x, "late(0, 12)", () -> x.late(0, 12), -1002);
        check.refused(x, "late(0, -1)", () -> x.late(0, -1), -1002);
        check.refused(x, "NONE ahead of STATE", () -> x.late(3, 0), -1002);
        check.refused(x, "a wall", () -> x.late(0, 10), -1003);
        check.refused(x, "a home", () -> x.late(0, 6), -1003);
        x.day();
        check.refused(x, "a home that is left", () -> x.late(0, 3), -1003);
        check.refused(x, "somebody is there", () -> x.late(0, 2), -1003);
        StepOwed y = Scenes.lineOfPurses(0, 5, 2, 0);
        y.owe(0, 1, 5);
        check.due("never with it", y.late(0, 1), -1001);
        check.due("no later", y.late(0, 9), 0);
        y.owe(0, 1, 6);
        check.due("never without it", y.late(0, 9), -1001);
        // 1 goes round, and 0 behind it, but not if there were a wall.
        StepOwed z = new StepOwed();
        z.valley(3, 3);
        z.wall(1, true);
        z.person(0, 0, 7, 20);
        z.person(6, 0, 4, 0);
        z.owe(0, 1, 5);
        z.owe(1, 0, 5);
        int[] ways = {2, 3, 1, 4};
        for (int k = 0; k < 4; k++) z.row(1, k, ways[k]);
        check.due("never without it, but with it", z.late(0, 3), -1001);
        check.due("never without it", z.free(0), -5);
    }

    private static void sit() {
        StepOwed x = Scenes.lineOfPurses(3, 10, 7, 0);
        x.owe(0, 1, 10);
        check.due("n 0: where", x.sit(1, 0, 0), 0);
        check.due("n 0: how much", x.sit(1, 0, 1), 10);
        check.due("n 1: where", x.sit(1, 1, 0), 2);
        check.due("n 1: how much", x.sit(1, 1, 1), 0);
        check.due("n 2: where", x.sit(1, 2, 0), 1);
        check.due("n 3: where", x.sit(1, 3, 0), 0);
        check.due("n 30: where", x.sit(1, 30, 0), 0);
        check.due("one to whom nothing is owed", x.sit(0, 5, 0), 0);
        check.due("nothing", x.sit(0, 5, 1), 0);
        x.owe(0, 1, 14);
        check.due("not all is paid: where", x.sit(1, 1, 0), 2);
        check.due("not all is paid: how much", x.sit(1, 1, 1), 4);
        x.wall(0, true);
        x.wall(1, true);
        check.due("not where a wall is", x.sit(1, 0, 0), 2);
        check.due("it is where it was", x.of(1, 3), 7);
        check.refused(x, "sit(2, 0, 0)", () -> x.sit(2, 0, 0), StepOwed.NONE);
        check.refused(x, "sit(-1, 0, 0)", () -> x.sit(-1, 0, 0), StepOwed.NONE);
        check.refused(x, "sit(0, 0, 2)", () -> x.sit(0, 0, 2), StepOwed.NONE);
        check.refused(x, "sit(0, 0, -1)", () -> x.sit(0, 0, -1), StepOwed.NONE);
        check.refused(x, "sit(0, 31, 0)", () -> x.sit(0, 31, 0), StepOwed.BAD);
        check.refused(x, "sit(0, -1, 0)", () -> x.sit(0, -1, 0), StepOwed.BAD);
        check.refused(x, "NONE ahead of BAD", () -> x.sit(2, 31, 0), StepOwed.NONE);
        check.refused(x, "NONE ahead of BAD", () -> x.sit(0, 31, 2), StepOwed.NONE);
        // What two owe it, together; its own debts do not count.
        StepOwed y = Scenes.lineOfPurses(0, 50, 4, 0, 7, 50);
        y.owe(0, 1, 10);
        y.owe(2, 1, 7);
        y.owe(1, 0, 99);
        Check.law(y, "rest p=1");
        check.due("together", y.sit(1, 0, 1), 17);
        check.due("the greater one is paid: where", y.sit(1, 1, 0), 0);
        check.due("the greater one is paid: how much", y.sit(1, 1, 1), 7);
        check.due("both are paid: where", y.sit(1, 4, 0), 3);
        check.due("both are paid: how much", y.sit(1, 4, 1), 0);
    }

    /** 60 days from now, no more. */
    private static void lastDays() {
        for (int wait = 58; wait <= 62; wait++) {
            // It pays one a day from day 1 on.
            StepOwed x = Scenes.lineOfPurses(0, 0, 0, 0);
            x.owe(0, 1, wait);
            Check.law(x, "earn 1 p=0");
            check.due("free after " + wait, x.free(0), wait <= 60 ? wait : -5);
            check.due("by its order", x.order(0, -1), wait <= 60 ? wait : -5);
            check.due("by its order, whom", x.order(0, 0), wait <= 60 ? 1 : -5);
            check.due("late", x.late(0, 15), wait <= 60 ? 0 : -1001);
        }
        for (int wait = 54; wait <= 60; wait++) {
            homeAfter(wait);
            onAfter(wait);
        }
    }

    /** HOMING 0 goes 3 cells to pay 1, one a day, and then home again. */
    private static void homeAfter(int wait) {
        int due = wait + 3 <= 60 ? wait + 3 : -5;
        StepOwed x = new StepOwed();
        x.valley(8, 2);
        x.person(3, 0, 0, 0);
        x.person(0, 0, 3, 0);
        x.owe(0, 1, wait);
        Check.law(x, "earn 1 p=0");
        check.due("as it was, places, after " + wait, x.again(1), due);
        check.due("as it was, purses, after " + wait, x.again(0), -5);
        // 2 stays at 0 and owes 1, who goes to it when 0 owes nothing any more.
        x.person(0, 0, 0, 0);
        for (int n = 0; n < 3; n++) x.day();
        x.owe(0, 1, wait);
        x.owe(2, 1, 1);
        Check.law(x, "earn 1 p=0;come 1;rest p=2");
        check.due("meet after " + wait, x.meet(0, 2), due);
        check.due("spot after " + wait, x.spot(), due);
    }

    /** 0 pays 1 at 3 all of 99, and goes on to 2 at 7. */
    private static void onAfter(int wait) {
        StepOwed x = Scenes.lineOfPurses(0, 99 - wait, 3, 0, 7, 0);
        x.owe(0, 2, 99);
        Check.law(x, "earn 1 p=0");
        check.due("whom after " + wait, x.whom(0, 7, 0), wait + 4 <= 60 ? 1 : -5);
        check.due("whom after " + wait + ", when", x.whom(0, 7, 1), wait + 4 <= 60 ? wait + 4 : -5);
        for (int n = 57; n <= 60; n++) {
            check.due("odds by " + n + " after " + wait, x.odds(0, 2, n, 0), wait + 4 <= n ? 1 : 0);
        }
    }
}
