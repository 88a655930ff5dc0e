/** The edges that "Terms" 1 names: sizes, numbers of PEOPLE, LAWS and what a DAY does at them. */
final class EdgesTest {
    private static final Check check = new Check("EdgesTest");

    public static void main(String[] args) {
        sizes();
        cells();
        cellsOnTheWay();
        sides();
        peopleAtTheirEdges();
        sums();
        tapeAndLaws();
        withoutLaw();
        newestLaw();
        anyRest();
        numbersOfTests();
        earnsTogether();
        purses();
        rich();
        restingDays();
        crossings();
        rows();
        nobody();
        check.end();
    }

    private static StepOwed valley(int wide, int high) {
        StepOwed x = new StepOwed();
        x.valley(wide, high);
        return x;
    }

    /** 2 .. 8 a side: so many cells, none with a wall, whatever stood there ahead. */
    private static void sizes() {
        StepOwed x = new StepOwed();
        int were = 36;
        for (int wide = 2; wide <= 8; wide++) {
            for (int high = 2; high <= 8; high++) {
                String size = wide + " by " + high;
                check.due(size, x.valley(wide, high), were);
                were = wide * high;
                check.due("the first of " + size, x.wall(0, true), 0);
                check.due("the last of " + size, x.wall(were - 1, true), 0);
                check.due("none behind it, " + size, x.wall(were, true), StepOwed.NONE);
                check.due("has its wall, " + size, x.wall(were - 1, true), 1);
            }
        }
        StepOwed y = valley(8, 8);
        for (int cell = 0; cell < 64; cell++) y.wall(cell, true);
        check.due("as wide and high as it is", y.valley(8, 8), 64);
        for (int cell = 0; cell < 64; cell++) check.due("no wall then, " + cell, y.wall(cell, false), 0);
    }

    /** A cell's number is WIDE times its y, and its x. */
    private static void cells() {
        for (int[] size : new int[][] {{6, 6}, {2, 8}, {8, 2}, {3, 5}, {8, 8}}) {
            for (int cell = 0; cell < size[0] * size[1]; cell++) {
                StepOwed x = new StepOwed();
                if (size[0] != 6) x.valley(size[0], size[1]);
                x.person(0, 0, cell, 0);
                Check.law(x, "earn 1 x=" + cell % size[0] + "&y=" + cell / size[0]);
                check.due("x and y of " + cell + ", " + size[0] + " wide", x.of(0, 8), 1);
            }
        }
    }

    /** x and y of the cell where one IS, and not of its HOME. */
    private static void cellsOnTheWay() {
        StepOwed x = new StepOwed();
        x.person(0, 0, 0, 0);
        x.person(0, 0, 35, 0);
        x.owe(0, 1, 1);
        Check.law(x, "earn 1 x=0;earn 2 x=1;earn 4 x=2;earn 10 y=0;earn 20 y=1;earn 40 y=2");
        int[] due = {11, 12, 22, 24, 44};
        int[] at = {0, 1, 7, 8, 14};
        for (int n = 0; n < due.length; n++) {
            check.due("where on " + n, x.of(0, 3), at[n]);
            check.due("EARNS on " + n, x.of(0, 8), due[n]);
            x.day();
        }
    }

    /** x more, x less, y more, y less of each cell, with a wall or none: it stays, if there is no cell. */
    private static void sides() {
        int[][] by = {{0, 0}, {1, 0}, {-1, 0}, {0, 1}, {0, -1}};
        for (int[] size : new int[][] {{2, 2}, {8, 2}, {2, 8}, {3, 4}, {8, 8}}) {
            int wall = size[0] * (size[1] / 2) + size[0] / 2;
            for (int cell = 0; cell < size[0] * size[1]; cell++) {
                if (cell == wall) continue;
                for (int way = 0; way < 5; way++) {
                    StepOwed x = valley(size[0], size[1]);
                    x.wall(wall, true);
                    x.person(6, 0, cell, 0);
                    x.person(0, 0, cell, 0);
                    x.owe(0, 1, 1);
                    x.row(0, 0, way);
                    int toX = cell % size[0] + by[way][0];
                    int toY = cell / size[0] + by[way][1];
                    boolean out = toX < 0 || toX >= size[0] || toY < 0 || toY >= size[1];
                    int to = out || size[0] * toY + toX == wall ? cell : size[0] * toY + toX;
                    check.due(size[0] + " by " + size[1] + ", from " + cell + " by " + way, x.on(0, 1, 0), to);
                }
            }
        }
    }

    private static void peopleAtTheirEdges() {
        for (int kind = 0; kind < 7; kind++) {
            for (int v = 0; v < 10; v += 9) {
                for (int purse = 0; purse < 1000; purse += 999) {
                    StepOwed x = new StepOwed();
                    for (int i = 0; i < 4; i++) check.due("number", x.person(kind, v, 35, purse), i);
                    check.due("no fifth", x.person(kind, v, 35, purse), StepOwed.FULL);
                    for (int i = 0; i < 4; i++) {
                        int[] due = {kind, v, 35, 35, purse, 0, kind == 3 || kind == 6 ? 35 : -5};
                        for (int what = 0; what < due.length; what++) {
                            check.due("of(" + i + ", " + what + ")", x.of(i, what), due[what]);
                        }
                        check.due("nobody is owed", x.of(i, 10), StepOwed.NONE);
                        check.due("no sum", x.of(i, 20), StepOwed.NONE);
                        for (int k = 0; k < 4; k++) {
                            check.due("a ROW, 0 at first", x.row(i, k, 0), kind == 6 ? 0 : StepOwed.STATE);
                        }
                    }
                    check.due("DAY at first", x.now(), 0);
                }
            }
        }
    }

    /** SUM 1 .. 99, no one twice, a row of all others at most. */
    private static void sums() {
        for (int sum = 1; sum <= 99; sum += 98) {
            StepOwed x = new StepOwed();
            for (int i = 0; i < 4; i++) x.person(0, 0, 0, i == 0 ? sum : 0);
            check.due("owe " + sum, x.owe(0, 3, sum), 1);
            check.due("the sum", x.of(0, 20), sum);
            check.due("100 is none", x.owe(0, 3, 100), StepOwed.BAD);
            check.due("the sum still", x.of(0, 20), sum);
            check.due("together", x.on(0, 0, 2), sum);
            check.due("all is paid on one day", x.on(0, 1, 2), 0);
            check.due("the creditor has it", x.on(3, 1, 1), sum);
            check.due("and the debt is gone", x.free(0), 1);
            check.due("no one twice", x.owe(0, 3, 50), 1);
            check.due("the second", x.owe(0, 1, 1), 2);
            check.due("the third", x.owe(0, 2, 1), 3);
            check.due("all others, and no one twice", x.owe(0, 1, 99), 3);
            int[] due = {3, 1, 2, StepOwed.NONE};
            for (int k = 0; k < 4; k++) check.due("whom, " + k, x.of(0, 10 + k), due[k]);
            check.due("a sum of 0 ends the middle one", x.owe(0, 1, 0), 2);
            check.due("a sum of 0 to whom nothing is owed", x.owe(0, 1, 0), 2);
            check.due("it comes in again behind", x.owe(0, 1, 2), 3);
            check.due("at the end", x.of(0, 12), 1);
        }
    }

    private static void tapeAndLaws() {
        StepOwed x = new StepOwed();
        check.due("an empty tape ends too early: its size", x.law(), -10);
        check.due("and is no law", x.count(1), 0);
        Check.law(x, "come 1");
        check.due("an empty tape behind a law", x.law(), -10);
        check.due("and is no law", x.count(1), 1);
        String e = "earn 9 " + "p=0|".repeat(22) + "p<99;";
        check.due("99 signs would do", Check.law(x, e.substring(0, e.length() - 1)), 1);
        Check.feed(x, e + "come 9");
        check.due("100 signs at most", x.count(4), 100);
        check.due("so it ends too early", x.law(), -110);
        String middle = "earn 9 !p<2&x=0|y=1;".repeat(4);
        check.due("100 signs, all of a law but its end", Check.law(x, "come 1;" + middle + "rest !(k=0)&p"), -110);
        check.due("100 signs are a law", Check.law(x, "come 10;" + middle + "rest !!(k=0)"), 2);
        check.due("a fourth", Check.law(x, "come 1"), 3);
        check.due("a fifth", Check.law(x, "come 1"), 4);
        check.due("FULL with nothing on the tape", x.law(), StepOwed.FULL);
        check.due("five", x.count(1), 5);
        check.due("a sign comes still", x.feed('c'), 1);
    }

    /** Without a law there are no clauses; and a law of other words says nothing of one. */
    private static void withoutLaw() {
        for (String text : new String[] {"", "come 0", "come 2", "earn 0 p<9", "rest p>9", "earn 5 p>9;rest p=9"}) {
            for (int kind = 0; kind < 7; kind++) {
                StepOwed x = new StepOwed();
                x.day();
                x.person(kind, 3, 14, 0);
                x.person(0, 0, 0, 0);
                x.owe(1, 0, 5);
                if (!text.isEmpty()) check.due("law", Check.law(x, text), 0);
                String of = ", kind " + kind + " by '" + text + "'";
                check.due("EARNS" + of, x.of(0, 8), 0);
                check.due("STEPS" + of, x.of(0, 7), kind == 1 ? 2 : 1);
                check.due("AIM" + of, x.of(0, 6), kind == 3 || kind == 6 ? 14 : -5);
                check.due("where" + of, x.on(0, 1, 0), 14);
                check.due("PURSE" + of, x.on(0, 60, 1), 0);
            }
        }
    }

    private static void earns(StepOwed x, String e, boolean so) {
        check.due("law of " + e, Check.law(x, "earn 1 " + e) >= 0);
        check.due("EARNS by " + e, x.of(2, 8), so ? 1 : 0);
    }

    /** The newest law holds, and nothing of a longer one ahead of it, nor of a text with a FAULT. */
    private static void newestLaw() {
        for (String end : new String[] {"", ";"}) {
            for (String more : new String[] {";earn 5 p<9", ";rest p<9", ";come 1", ";earn 1 p<9;rest p<9;come 3"}) {
                for (String law : new String[] {"come 2", "earn 0 p=9", "rest p>9"}) {
                    StepOwed x = new StepOwed();
                    x.person(0, 0, 0, 0);
                    x.person(0, 0, 5, 0);
                    x.owe(1, 0, 9);
                    Check.law(x, law + more + end);
                    check.due("law of " + law, Check.law(x, law) >= 0);
                    String behind = " by " + law + " behind " + law + more + end;
                    check.due("EARNS" + behind, x.of(0, 8), 0);
                    check.due("STEPS" + behind, x.of(0, 7), 1);
                    check.due("AIM" + behind, x.of(0, 6), -5);
                }
            }
        }
    }

    /** It goes none, if any E of rest holds: the first, one between, the last. */
    private static void anyRest() {
        for (int rests = 1; rests <= 8; rests++) {
            for (int k = 0; k <= rests; k++) {
                StepOwed x = new StepOwed();
                x.person(1, 0, 0, 0);
                String text = "rest p=9;".repeat(k) + "rest p=0;" + "rest p=9;".repeat(rests - k);
                check.due("law", Check.law(x, text.substring(0, text.length() - 1)), 0);
                check.due("the one behind " + k + " of " + rests, x.of(0, 7), 0);
                StepOwed y = new StepOwed();
                y.person(1, 0, 0, 0);
                text = "rest p=9;".repeat(rests) + "come 1";
                check.due("law", Check.law(y, text), 0);
                check.due("none of " + rests, y.of(0, 7), 2);
            }
        }
    }

    /** All of a test's numbers have one or two digits: 0 .. 99. */
    private static void numbersOfTests() {
        for (char fact : "pkxydo".toCharArray()) {
            // Of number 2, KIND 5, x 1, y 0, day 0, 1 debt.
            int is = new int[] {2, 5, 1, 0, 0, 1}["pkxydo".indexOf(fact)];
            for (int n : new int[] {0, 9, 10, 98, 99}) {
                StepOwed x = new StepOwed();
                for (int i = 0; i < 3; i++) x.person(i == 2 ? 5 : 0, 0, 1, 0);
                x.owe(2, 0, 1);
                earns(x, fact + "<" + n, is < n);
                earns(x, fact + "=" + n, is == n);
                earns(x, fact + ">" + n, is > n);
            }
        }
    }

    private static void earnsTogether() {
        for (int clauses = 1; clauses <= 10; clauses++) {
            StepOwed x = new StepOwed();
            x.person(0, 0, 0, 0);
            String text = "earn 9 p=0;".repeat(Math.min(clauses, 8)) + "come 1;".repeat(Math.max(clauses - 8, 0));
            text = text.substring(0, text.length() - 1);
            check.due(clauses + " clauses", Check.law(x, text), text.length() <= 100 ? 0 : -110);
            if (text.length() <= 100) check.due("together", x.of(0, 8), 9 * Math.min(clauses, 8));
        }
        StepOwed y = new StepOwed();
        y.person(0, 0, 0, 0);
        check.due("ten clauses", Check.law(y, "come 1;".repeat(8) + "earn 7 p=0;earn 99 p=0"), 0);
        check.due("by the ninth and the tenth", y.of(0, 8), 106);
        check.due("ten clauses", Check.law(y, "earn 7 p=0;" + "come 1;".repeat(8) + "rest p=0"), 1);
        check.due("by the first", y.of(0, 8), 7);
        check.due("by the tenth", y.of(0, 7), 0);
        check.due("eleven", Check.law(y, "earn 8 p=0;" + "come 1;".repeat(9) + "rest p=0"), -10 - 73);
        check.due("by the law that held", y.of(0, 8), 7);
        y.person(0, 0, 5, 0);
        y.owe(0, 1, 9);
        check.due("ten clauses", Check.law(y, "come 0;".repeat(9) + "come 1"), 2);
        check.due("by the tenth come", y.of(1, 6), 0);
        check.due("ten clauses", Check.law(y, "come 1;".repeat(9) + "come 0"), 3);
        check.due("by the tenth come", y.of(1, 6), -5);
    }

    /** 999 at most, of what is earned and of what is paid; above 0, or nothing is paid. */
    private static void purses() {
        for (int purse = 898; purse <= 902; purse++) {
            StepOwed x = new StepOwed();
            x.person(0, 0, 0, 99);
            x.person(0, 0, 0, purse);
            x.owe(0, 1, 99);
            check.due("paid to one who has " + purse, x.on(1, 1, 1), Math.min(purse + 99, 999));
            check.due("all is paid even so", x.on(0, 1, 1), 0);
            Check.law(x, "earn 99 p=1");
            check.due("earned by one who has " + purse, x.on(1, 1, 1), Math.min(purse + 198, 999));
        }
        for (int purse = 898; purse <= 902; purse++) {
            // A creditor of a smaller number has earned, and paid, when it is paid.
            StepOwed x = new StepOwed();
            x.person(0, 0, 0, purse);
            x.person(0, 0, 0, 120);
            x.owe(1, 0, 99);
            check.due("paid to 0 who has " + purse, x.on(0, 1, 1), Math.min(purse + 99, 999));
            check.due("of 1 is left", x.on(1, 1, 1), 21);
            x.owe(0, 1, 1);
            check.due("paid to 0 who has " + purse + " and pays 1", x.on(0, 1, 1), Math.min(purse + 98, 999));
        }
        for (int purse = 0; purse < 3; purse++) {
            StepOwed x = new StepOwed();
            x.person(0, 0, 0, purse);
            x.person(0, 0, 0, 0);
            x.person(0, 0, 0, 0);
            x.owe(0, 1, 1);
            x.owe(0, 2, 1);
            check.due("owed still by one who had " + purse, x.on(0, 1, 2), 2 - purse);
            check.due("free of one who had " + purse, x.free(0), purse == 2 ? 1 : -5);
            check.due("and goes on so", x.on(0, 60, 2), 2 - purse);
        }
        StepOwed y = new StepOwed();
        y.person(0, 0, 0, 990);
        y.person(0, 0, 0, 0);
        Check.law(y, "earn 9 p=0");
        check.due("just 999", y.on(0, 1, 1), 999);
        check.due("not above it", y.on(0, 2, 1), 999);
        y.owe(0, 1, 9);
        check.due("it has 999 ahead of paying", y.on(0, 2, 1), 999);
        check.due("and 990 behind", y.on(0, 1, 1), 990);
    }

    /** RICH: two steps, if its PURSE is above 10 times v. */
    private static void rich() {
        for (int v = 0; v < 10; v++) {
            for (int more = -1; more < 2; more++) {
                if (10 * v + more < 0) continue;
                StepOwed x = valley(8, 2);
                x.person(4, v, 0, 10 * v + more);
                x.person(0, 0, 7, 0);
                x.owe(0, 1, 99);
                check.due("STEPS, v " + v + ", " + more + " above", x.of(0, 7), more > 0 ? 2 : 1);
                check.due("where, v " + v + ", " + more + " above", x.on(0, 1, 0), more > 0 ? 2 : 1);
                Check.law(x, "rest p=0&d=0");
                check.due("it rests", x.of(0, 7), 0);
                check.due("and not a day later", x.on(0, 2, 0), more > 0 ? 2 : 1);
            }
        }
    }

    /** RESTING: none, if DAY is a multiple of v and 2, together; 0 is one, too. */
    private static void restingDays() {
        for (int v = 0; v < 10; v++) {
            StepOwed x = valley(8, 8);
            x.person(5, v, 0, 0);
            x.person(0, 0, 63, 0);
            x.owe(0, 1, 99);
            int gone = 0;
            for (int day = 0; day < 24; day++) {
                boolean rests = day == 0 || day == v + 2 || day == 2 * v + 4 || day % (v + 2) == 0;
                check.due("STEPS on " + day + ", v " + v, x.of(0, 7), rests ? 0 : 1);
                x.day();
                if (!rests) gone++;
                int at = x.of(0, 3);
                check.due("so far by " + day + ", v " + v, at % 8 + at / 8, Math.min(gone, 14));
            }
        }
    }

    private static StepOwed two(int kind, int home, int other, int otherHome) {
        StepOwed x = valley(8, 2);
        x.person(kind, 0, home, 0);
        x.person(other, 0, otherHome, 0);
        x.owe(0, 1, 9);
        x.owe(1, 0, 9);
        return x;
    }

    private static void onOneDay(String what, StepOwed x, int... cells) {
        for (int i = 0; i < cells.length; i++) check.due(what + ", " + i, x.on(i, 1, 0), cells[i]);
        x.day();
        for (int i = 0; i < cells.length; i++) check.due(what + ", then, " + i, x.of(i, 3), cells[i]);
    }

    private static void crossings() {
        onOneDay("each where the other one was", two(0, 3, 0, 4), 4, 4);
        onOneDay("each where the other one was, by two steps", two(1, 3, 1, 5), 5, 5);
        onOneDay("it stays where it was, not where its first step led", two(1, 5, 1, 3), 3, 3);
        onOneDay("one step each to the cell between", two(0, 3, 0, 5), 4, 4);
        onOneDay("past one another is no crossing", two(1, 3, 1, 6), 5, 4);
        onOneDay("two steps and one are none", two(1, 3, 0, 5), 5, 4);
        onOneDay("at one cell is none", two(0, 3, 0, 3), 3, 3);
        StepOwed x = two(0, 3, 0, 4);
        Check.law(x, "rest p=0");
        onOneDay("who rests crosses nobody", x, 3, 3);
        StepOwed y = two(0, 3, 0, 4);
        y.owe(0, 1, 0);
        onOneDay("nor who stands", y, 3, 3);
        // 0 goes to 4; 1 and 2 both go to 3, and by the steps both would come where 0 was.
        StepOwed z = valley(8, 2);
        for (int home : new int[] {3, 4, 4, 3}) z.person(0, 0, home, 0);
        z.owe(0, 1, 9);
        z.owe(1, 0, 9);
        z.owe(2, 0, 9);
        z.owe(3, 1, 9);
        onOneDay("all greater numbers stay", z, 4, 4, 4, 3);
        // A ring of three: nobody comes where one was who comes where it was.
        StepOwed r = valley(2, 2);
        for (int home : new int[] {0, 1, 3}) r.person(6, 0, home, 0);
        for (int i = 0; i < 3; i++) r.owe(i, (i + 1) % 3, 9);
        for (int i = 0; i < 3; i++) r.row(i, 0, new int[] {1, 3, 2}[i]);
        onOneDay("a ring is no crossing", r, 1, 3, 2);
    }

    /** A ROW is by DAY modulo 4. */
    private static void rows() {
        for (int k = 0; k < 4; k++) {
            StepOwed x = new StepOwed();
            x.person(6, 0, 14, 0);
            x.person(0, 0, 35, 0);
            x.owe(0, 1, 9);
            x.row(0, k, 1);
            for (int n = 0; n <= 12; n++) {
                int steps = (n + 3 - k) / 4;
                check.due("a step by place " + k + ", day " + n, x.on(0, n, 0), 14 + Math.min(steps, 3));
            }
            x.owe(0, 1, 0);
            check.due("by no ROW without debts", x.on(0, 60, 0), 14);
        }
    }

    private static void nobody() {
        StepOwed x = new StepOwed();
        int[] none = {
            x.of(0, 0), x.of(0, 6), x.owe(0, 1, 1), x.row(0, 0, 0), x.on(0, 0, 0), x.meet(0, 1), x.meet(0, 0),
            x.free(0), x.whom(0, 0, 0), x.order(0, -1), x.sit(0, 0, 0), x.owed(0), x.book(0, 0, 0), x.trace(0), x.as(0, 0)};
        for (int k = 0; k < none.length; k++) check.due("of nobody, " + k, none[k], StepOwed.NONE);
        check.due("late", x.late(0, 0), -1002);
        check.due("odds", x.odds(0, 1, 0, 0), StepOwed.NO);
        check.due("mean", x.mean(0, 0), StepOwed.NO);
        check.due("mean", x.mean(60, 1), StepOwed.NO);
        check.due("spot", x.spot(), 0);
        check.due("again(0)", x.again(0), 1);
        check.due("again(1)", x.again(1), 1);
        check.due("looked", x.looked(), -5);
        check.due("book(-1, 0, 0)", x.book(-1, 0, 0), 0);
        check.due("act", x.act(0, 0, 5), 0);
        check.due("undo", x.undo(), StepOwed.STATE);
        for (int n = 1; n < 9; n++) check.due("days go", x.day(), n);
        check.due("image", x.image(), 0);
        check.due("undo", x.undo(), 0);
        check.due("now", x.now(), 8);
    }
}
