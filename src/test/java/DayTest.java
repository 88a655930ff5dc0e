/** Promises 10 and 11, and how a DAY goes: steps, crossings, earning, paying. */
final class DayTest {
    private static final Check check = new Check("DayTest");

    public static void main(String[] args) {
        counted();
        paths();
        walls();
        kinds();
        homeward();
        rows();
        creditorsGo();
        crossings();
        threeCross();
        earning();
        paying();
        chains();
        resting();
        check.end();
    }

    private static void counted() {
        StepOwed x = new StepOwed();
        for (int n = 1; n <= 300; n++) check.due("day()", x.day(), n);
        check.due("now()", x.now(), 300);
    }

    /** One of a kind at a home owes somebody at another cell, in 8 by 8. */
    private static StepOwed pair(int kind, int v, int purse, int home, int aim, int... walls) {
        StepOwed x = new StepOwed();
        x.valley(8, 8);
        for (int wall : walls) x.wall(wall, true);
        x.person(kind, v, home, purse);
        x.person(0, 0, aim, 0);
        x.owe(0, 1, 99);
        return x;
    }

    private static void path(String what, StepOwed x, int... cells) {
        for (int n = 0; n < cells.length; n++) {
            check.due(what + ", told ahead, day " + (n + 1), x.on(0, n + 1, 0), cells[n]);
        }
        for (int n = 0; n < cells.length; n++) {
            x.day();
            check.due(what + ", day " + (n + 1), x.of(0, 3), cells[n]);
        }
    }

    private static void paths() {
        path("the farther side first", pair(0, 0, 0, 9, 28), 10, 11, 19, 20, 28, 28);
        path("left and up", pair(0, 0, 0, 28, 9), 27, 26, 18, 17, 9, 9);
        path("down first", pair(0, 0, 0, 0, 17), 8, 9, 17);
        path("up first", pair(0, 0, 0, 17, 0), 9, 8, 0);
        path("SHY: the shorter side first", pair(2, 0, 0, 9, 28), 17, 25, 26, 27, 28, 28);
        path("SHY: of like ones along x", pair(2, 0, 0, 9, 27), 10, 11, 19, 27);
        path("SHY: along x, if that is shorter", pair(2, 0, 0, 0, 17), 1, 9, 17);
        path("SHY: not along none, x", pair(2, 0, 0, 0, 16), 8, 16);
        path("SHY: not along none, y", pair(2, 0, 0, 0, 2), 1, 2);
        path("SWIFT", pair(1, 0, 0, 9, 28), 11, 20, 28, 28);
        path("HOMING with a debt", pair(3, 0, 0, 9, 28), 10, 11, 19, 20, 28);
        path("at the aim", pair(0, 0, 0, 5, 5), 5, 5);
    }

    private static void walls() {
        path("by the other side", pair(0, 0, 0, 9, 28, 10), 17, 18, 19, 20, 28);
        path("both with walls", pair(0, 0, 0, 9, 28, 10, 17), 9, 9, 9);
        path("not away by the other side", pair(0, 0, 0, 9, 12, 10), 9, 9);
        path("not away by the other side, y", pair(0, 0, 0, 9, 33, 17), 9, 9);
        path("y first, a wall: x", pair(0, 0, 0, 0, 17, 8), 1, 9, 17);
        path("SHY by the other side", pair(2, 0, 0, 9, 28, 17), 10, 11, 12, 20, 28);
        path("SHY, not away by the other side", pair(2, 0, 0, 9, 12, 10), 9, 9);
        path("SWIFT: the second step by the other side", pair(1, 0, 0, 9, 28, 11), 18, 20);
        path("SWIFT: only one step", pair(1, 0, 0, 9, 13, 11), 10, 10);
    }

    private static void kinds() {
        path("RICH, not above 10 v", pair(4, 2, 20, 9, 28), 10, 11, 19);
        path("RICH, above 10 v", pair(4, 2, 21, 9, 28), 11, 20, 28);
        path("RICH with v 0 and nothing", pair(4, 0, 0, 9, 28), 10, 11);
        path("RICH with v 0 and 1", pair(4, 0, 1, 9, 28), 11, 20);
        path("RESTING on each 11th day", pair(5, 9, 0, 9, 28), 9, 17, 25, 26, 27, 28);
        path("RESTING on each 2nd day", pair(5, 0, 0, 9, 28), 9, 17, 17, 25, 25, 26);
        path("RESTING on each 3rd day", pair(5, 1, 0, 9, 28), 9, 17, 25, 25, 26, 27, 27);
        check.due("STEPS of RICH, above", pair(4, 2, 21, 9, 28).of(0, 7), 2);
        check.due("STEPS of RICH, not above", pair(4, 2, 20, 9, 28).of(0, 7), 1);
        check.due("STEPS of SWIFT", pair(1, 2, 0, 9, 28).of(0, 7), 2);
        check.due("STEPS of SHY", pair(2, 2, 99, 9, 28).of(0, 7), 1);
        check.due("STEPS at the aim", pair(1, 2, 0, 9, 9).of(0, 7), 2);
        StepOwed x = pair(5, 1, 0, 9, 28);
        for (int n = 0; n < 7; n++) {
            check.due("STEPS of RESTING on " + n, x.of(0, 7), n % 3 == 0 ? 0 : 1);
            x.day();
        }
        // It becomes rich on its way, and then poor.
        StepOwed y = pair(4, 1, 10, 9, 15);
        Check.law(y, "earn 1 d=0&p=0");
        path("RICH by what it earns", y, 10, 12, 14, 15, 15);
        check.due("all is paid over", y.of(0, 4), 0);
    }

    private static void homeward() {
        for (int kind = 0; kind < 7; kind++) {
            StepOwed x = new StepOwed();
            x.valley(8, 2);
            x.person(kind, 0, 0, 0);
            x.person(0, 0, 3, 0);
            x.owe(0, 1, 5);
            for (int k = 0; k < 4; k++) x.row(0, k, 1);
            for (int n = 0; n < 8; n++) x.day();
            boolean home = kind == 3 || kind == 6;
            x.owe(0, 1, 0);
            int at = x.of(0, 3);
            check.due("aim of kind " + kind, x.of(0, 6), home ? 0 : -5);
            check.due("a day later", x.on(0, 1, 0), home ? at - 1 : at);
            check.due("many days later", x.on(0, 20, 0), home ? 0 : at);
        }
        StepOwed x = new StepOwed();
        x.valley(8, 2);
        x.person(6, 0, 0, 5);
        x.person(0, 0, 3, 0);
        x.owe(0, 1, 5);
        for (int k = 0; k < 4; k++) x.row(0, k, 1);
        path("TOLD pays and goes home", x, 1, 2, 3, 2, 1, 0, 0);
    }

    private static void rows() {
        int[][] runs = {
            // home, way, where it is then, in 3 by 3 with a wall in the middle
            {0, 0, 0}, {0, 1, 1}, {0, 2, 0}, {0, 3, 3}, {0, 4, 0}, {2, 1, 2}, {2, 2, 1}, {2, 3, 5}, {2, 4, 2},
            {6, 2, 6}, {6, 3, 6}, {6, 4, 3}, {6, 1, 7}, {8, 1, 8}, {8, 3, 8}, {8, 2, 7}, {8, 4, 5},
            {1, 3, 1}, {3, 1, 3}, {5, 2, 5}, {7, 4, 7}, {5, 1, 5}, {3, 2, 3}};
        for (int[] run : runs) {
            StepOwed x = new StepOwed();
            x.valley(3, 3);
            x.wall(4, true);
            x.person(6, 0, run[0], 0);
            x.person(0, 0, run[0], 0);
            x.owe(0, 1, 9);
            x.row(0, 0, run[1]);
            check.due("aim of TOLD", x.of(0, 6), run[0]);
            check.due("steps of TOLD", x.of(0, 7), 1);
            check.due("from " + run[0] + " by way " + run[1], x.on(0, 1, 0), run[2]);
            x.day();
            check.due("and stays by way 0", x.on(0, 1, 0), run[2]);
            Check.law(x, "rest p=0");
            x.row(0, 1, 1);
            check.due("and rests", x.on(0, 1, 0), run[2]);
        }
        StepOwed x = new StepOwed();
        x.person(6, 0, 0, 0);
        x.person(0, 0, 35, 0);
        x.owe(0, 1, 9);
        int[] ways = {1, 3, 1, 4};
        for (int k = 0; k < 4; k++) x.row(0, k, ways[k]);
        path("a ROW goes round", x, 1, 7, 8, 2, 3, 9, 10, 4);
    }

    private static void creditorsGo() {
        int[] first = {2, 1, 2, 3, 2, 3, 3};
        int[] second = {1, 0, 1, 3, 1, 2, 3};
        for (int kind = 0; kind < 7; kind++) {
            StepOwed x = new StepOwed();
            x.valley(8, 2);
            x.person(0, 0, 7, 0);
            x.person(kind, 9, 3, 0);
            x.person(0, 0, 0, 0);
            x.person(0, 0, 6, 0);
            x.owe(2, 0, 9);
            x.owe(2, 1, 9);
            x.owe(3, 1, 9);
            Check.law(x, "come 1;rest p<1|p>1");
            boolean home = kind == 3 || kind == 6;
            check.due("aim of kind " + kind, x.of(1, 6), home ? 3 : 0);
            x.day();
            check.due("it goes, kind " + kind, x.of(1, 3), first[kind]);
            check.due("it goes on, kind " + kind, x.on(1, 1, 0), second[kind]);
            check.due("it is", x.on(1, 30, 0), home ? 3 : 0);
            Check.law(x, "come 2;rest p<1|p>1");
            check.due("come is even", x.of(1, 6), home ? 3 : -5);
            Check.law(x, "come 3");
            x.owe(2, 1, 0);
            check.due("then the other debtor", x.of(1, 6), home ? 3 : x.of(3, 3));
            x.owe(3, 1, 0);
            check.due("then none", x.of(1, 6), home ? 3 : -5);
            x.owe(1, 0, 1);
            x.owe(0, 1, 1);
            check.due("who has debts goes to the creditor", x.of(1, 6), 7);
        }
    }

    private static void places(String what, StepOwed x, int... cells) {
        x.day();
        for (int i = 0; i < cells.length; i++) check.due(what + ": " + i, x.of(i, 3), cells[i]);
    }

    private static void crossings() {
        StepOwed x = Scenes.line(0, 1);
        x.owe(0, 1, 9);
        x.owe(1, 0, 9);
        places("the greater number stays", x, 1, 1);
        places("and they are together", x, 1, 1);
        x.owe(0, 1, 0);
        x.owe(1, 0, 0);
        x.person(0, 0, 7, 0);
        x.owe(1, 2, 9);
        places("who stayed goes on another day", x, 1, 2);
        StepOwed y = Scenes.line(1, 0);
        y.owe(0, 1, 9);
        y.owe(1, 0, 9);
        places("from the other side", y, 0, 0);
        StepOwed z = Scenes.line(0, 2);
        z.owe(0, 1, 9);
        z.owe(1, 0, 9);
        places("to the cell between", z, 1, 1);
        StepOwed s = new StepOwed();
        s.person(1, 0, 0, 0);
        s.person(1, 0, 2, 0);
        s.owe(0, 1, 9);
        s.owe(1, 0, 9);
        places("two steps each", s, 2, 2);
        // One follows the other, which goes on: no crossing.
        StepOwed f = Scenes.line(0, 1, 5);
        f.owe(0, 1, 9);
        f.owe(1, 2, 9);
        places("one follows", f, 1, 2, 5);
        // 1 stays, and so 2 comes where it is.
        StepOwed g = Scenes.line(1, 2, 3);
        g.owe(0, 1, 9);
        g.owe(1, 0, 9);
        g.owe(2, 1, 9);
        places("one comes up", g, 2, 2, 2);
    }

    private static void threeCross() {
        StepOwed x = Scenes.line(0, 1, 1);
        x.owe(0, 1, 9);
        x.owe(1, 0, 9);
        x.owe(2, 0, 9);
        places("both who would cross stay", x, 1, 1, 1);
        // By the steps alone 1 and 2 would change places, too, though 1 then stays.
        StepOwed y = Scenes.line(0, 1, 0);
        y.owe(0, 1, 9);
        y.owe(1, 0, 9);
        y.owe(2, 1, 9);
        places("by the steps alone", y, 1, 1, 0);
        StepOwed z = Scenes.line(0, 1, 1, 0);
        z.owe(1, 0, 9);
        z.owe(3, 1, 9);
        places("numbers 1 and 3", z, 0, 0, 1, 0);
    }

    private static void earning() {
        StepOwed x = Scenes.line(0, 7);
        x.owe(0, 1, 99);
        Check.law(x, "earn 10 x=0;earn 5 d=0;earn 7 o=1;earn 1 x=1;earn 50 d=1");
        x.day();
        check.due("by how all is ahead of the day", x.of(0, 4), 22);
        check.due("it has gone", x.of(0, 3), 1);
        check.due("of 1", x.of(1, 4), 5);
        x.day();
        check.due("the next day", x.of(0, 4), 22 + 7 + 1 + 50);
        StepOwed y = Scenes.line(0, 0);
        y.owe(0, 1, 99);
        y.owe(0, 1, 0);
        Check.law(y, "earn 99 p=0");
        for (int n = 1; n <= 12; n++) {
            y.day();
            check.due("999 at most", y.of(0, 4), Math.min(999, 99 * n));
        }
    }

    private static void paying() {
        StepOwed x = new StepOwed();
        x.person(0, 0, 0, 990);
        x.person(0, 0, 0, 950);
        x.owe(0, 1, 99);
        Check.law(x, "earn 22 p=0");
        x.day();
        check.due("999 at most, and then it pays", x.of(0, 4), 900);
        check.due("999 at most of the creditor's", x.of(1, 4), 999);
        check.due("paid", x.of(0, 5), 0);
        StepOwed y = new StepOwed();
        y.person(0, 0, 4, 15);
        for (int i = 1; i < 4; i++) y.person(0, 0, 4, i);
        y.owe(0, 2, 5);
        y.owe(0, 1, 7);
        y.owe(0, 3, 9);
        check.due("owed together", y.on(0, 0, 2), 21);
        y.day();
        check.due("nothing is left", y.of(0, 4), 0);
        check.due("one debt is left", y.of(0, 5), 1);
        check.due("to 3", y.of(0, 10), 3);
        check.due("of 6", y.of(0, 20), 6);
        check.due("2 has", y.of(2, 4), 7);
        check.due("1 has", y.of(1, 4), 8);
        check.due("3 has", y.of(3, 4), 6);
        // The second creditor is there, the first is not.
        StepOwed z = new StepOwed();
        z.person(0, 0, 0, 50);
        z.person(0, 0, 0, 0);
        z.person(0, 0, 3, 0);
        z.owe(0, 2, 5);
        z.owe(0, 1, 5);
        z.day();
        check.due("only the first is paid", z.of(0, 5), 2);
        check.due("purse", z.of(0, 4), 50);
        z.day();
        z.day();
        check.due("it is paid on coming", z.of(0, 5), 1);
        check.due("purse", z.of(0, 4), 45);
        check.due("turns to the next", z.of(0, 6), 0);
    }

    private static void chains() {
        StepOwed x = Scenes.line(5, 5, 5);
        x.owe(0, 1, 10);
        x.owe(1, 2, 10);
        Check.law(x, "earn 10 p=0&d=0");
        x.day();
        check.due("by numbers: all on one day", x.of(2, 4), 10);
        StepOwed y = Scenes.line(5, 5, 5);
        y.owe(2, 1, 10);
        y.owe(1, 0, 10);
        Check.law(y, "earn 10 p=2&d=0");
        y.day();
        check.due("by numbers: 1 waits", y.of(1, 4), 10);
        check.due("by numbers: 0 has nothing", y.of(0, 4), 0);
        y.day();
        check.due("by numbers: then 0 has it", y.of(0, 4), 10);
        StepOwed z = new StepOwed();
        z.person(0, 0, 5, 3);
        z.person(0, 0, 5, 0);
        z.owe(0, 1, 10);
        z.owe(1, 0, 4);
        z.day();
        check.due("to and fro: 0", z.of(0, 4), 3);
        check.due("to and fro: owed", z.of(0, 20), 7);
        check.due("to and fro: owed back", z.of(1, 20), 1);
        z.day();
        check.due("to and fro: 0 again", z.of(0, 4), 1);
        check.due("to and fro: 1 again", z.of(1, 4), 2);
        check.due("to and fro: owed again", z.of(0, 20), 4);
        check.due("to and fro: free", z.of(1, 5), 0);
    }

    private static void resting() {
        StepOwed x = Scenes.line(0, 1, 1);
        x.owe(0, 1, 9);
        x.owe(1, 2, 9);
        Check.law(x, "rest d<2&p=0;earn 3 p<2");
        x.day();
        x.day();
        check.due("who rests goes none", x.of(0, 3), 0);
        check.due("and earns", x.of(0, 4), 6);
        check.due("who is there pays", x.of(2, 4), 6);
        x.day();
        check.due("then goes", x.of(0, 3), 1);
        check.due("and pays", x.of(0, 5), 0);
    }
}
