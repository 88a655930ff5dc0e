import java.util.List;
import java.util.function.Consumer;
import java.util.function.Supplier;

/** The edges that "Terms" 2 names: days ahead, TRACKS, BOOK, fractions, ACTS that wrap, THE IMAGE. */
final class EdgesAheadTest {
    private static final Check check = new Check("EdgesAheadTest");

    public static void main(String[] args) {
        daysAhead();
        sitting();
        sitAnywhere();
        leastOfSeveral();
        neverFree();
        laterAndSooner();
        sixTracks();
        eightRows();
        daysOfBook();
        fromTheDayOfAsking();
        someOfTheDays();
        lowestTerms();
        wrapping();
        bodiesKept();
        theImage();
        imageOfAll();
        faultsChangeNoMore();
        check.end();
    }

    /** TOLD 0 goes from cell to cell by its ROW, and never pays 1. */
    private static StepOwed told(int home, int... row) {
        StepOwed x = new StepOwed();
        x.valley(8, 8);
        x.person(6, 0, home, 0);
        x.person(0, 0, 56, 0);
        x.owe(0, 1, 99);
        for (int k = 0; k < 4; k++) x.row(0, k, row[k]);
        return x;
    }

    private static StepOwed slow() {
        StepOwed x = told(0, 1, 1, 1, 1);
        Check.law(x, "rest d>0;earn 1 p=1");
        return x;
    }

    /** DAYS 0 .. 60, each told as it will be. */
    private static void daysAhead() {
        StepOwed goes = slow();
        StepOwed asked = slow();
        for (int n = 0; n <= 60; n++) {
            check.due("where on " + n, asked.on(0, n, 0), goes.of(0, 3));
            check.due("steps so far by " + n, asked.on(0, n, 0), Math.min((n + 6) / 7, 7));
            check.due("PURSE on " + n, asked.on(1, n, 1), n);
            check.due("SUMS on " + n, asked.on(0, n, 2), 99);
            check.due("MEAN on " + n, asked.mean(n, 0) * 2, asked.mean(n, 1) * n);
            goes.day();
        }
        check.due("no day went", asked.now(), 0);
    }

    /** SIT for n 0 .. 30: 0 rests at 9 and pays one a day to who is there. */
    private static void sitting() {
        StepOwed x = Scenes.line(9, 14, 3);
        x.owe(0, 1, 99);
        Check.law(x, "earn 1 p=0;rest p=0");
        for (int n = 0; n <= 30; n++) {
            check.due("where for " + n, x.sit(1, n, 0), n == 0 ? 0 : 9);
            check.due("how much for " + n, x.sit(1, n, 1), 99 - n);
            check.due("one to whom nothing is owed, " + n, x.sit(2, n, 0), 0);
            check.due("nothing, " + n, x.sit(2, n, 1), 0);
        }
        check.due("for 31", x.sit(1, 31, 1), StepOwed.BAD);
        x.owe(2, 0, 5);
        x.owe(2, 1, 7);
        check.due("what another one owes it behind another debt, too", x.sit(1, 0, 1), 106);
        check.due("and then", x.sit(1, 30, 1), 76);
        x.owe(2, 1, 0);
        x.owe(2, 0, 0);
        x.wall(0, true);
        x.wall(1, true);
        check.due("the least without a WALL", x.sit(2, 5, 0), 2);
    }

    /** The cells of HOMES, and where others ARE, may be sat at, too; its own HOME stays what it is. */
    private static void sitAnywhere() {
        StepOwed x = new StepOwed();
        x.valley(2, 2);
        x.wall(0, true);
        x.wall(2, true);
        x.person(3, 0, 1, 0);
        x.person(0, 0, 3, 5);
        check.due("only homes are left", x.sit(0, 0, 0), 1);
        x.owe(1, 0, 5);
        Check.law(x, "rest p=1");
        // HOMING 0 would be home again on the day, and so not where 1 rests.
        check.due("its HOME stays what it is", x.sit(0, 1, 0), 1);
        check.due("it is not paid", x.sit(0, 1, 1), 5);
        Check.law(x, "rest p<2");
        check.due("where the other one is", x.sit(0, 1, 0), 3);
        check.due("it is paid", x.sit(0, 1, 1), 0);
        Check.law(x, "rest p=0");
        check.due("the other one comes", x.sit(0, 1, 0), 1);
        check.due("and pays", x.sit(0, 1, 1), 0);
        check.due("it is where it was", x.of(0, 3), 1);
    }

    /** Of several the least: of PEOPLE, cells, orders, rows. */
    private static void leastOfSeveral() {
        StepOwed x = Scenes.line(3, 7, 7, 7);
        check.due("whom: of three alike", x.whom(0, 5, 0), 1);
        x.owe(0, 1, 1);
        check.due("whom: of two alike", x.whom(0, 5, 0), 2);
        x.owe(0, 2, 1);
        check.due("whom: the only one", x.whom(0, 5, 0), 3);
        check.due("whom: now", x.whom(0, 3, 1), 0);
        check.due("whom: where it is", x.whom(0, 3, 0), 3);
        StepOwed y = Scenes.line(3, 3, 3, 3);
        for (int k = 3; k > 0; k--) y.owe(0, k, 2);
        Check.law(y, "earn 2 p=0");
        check.due("order: when", y.order(0, -1), 3);
        for (int k = 0; k < 4; k++) check.due("order: the first as a row, " + k, y.order(0, k), k < 3 ? k + 1 : -5);
        StepOwed z = Scenes.line(3);
        z.book(0, 60, 4);
        z.book(0, 0, 5);
        check.due("looked: the first", z.looked(), 0);
    }

    /** Of one who is never FREE, or has no DEBTS. */
    private static void neverFree() {
        StepOwed x = Scenes.line(3, 5, 6, 7);
        check.due("no debts: when", x.order(0, -1), 0);
        for (int k = 0; k < 4; k++) check.due("no debts: " + k, x.order(0, k), -5);
        check.due("no debts: free", x.free(0), 0);
        check.due("no debts: late", x.late(0, 4), 0);
        for (int debts = 1; debts < 4; debts++) {
            x.owe(0, debts, 1);
            check.due("by none: when", x.order(0, -1), -5);
            for (int k = 0; k < 4; k++) check.due("by none: " + k, x.order(0, k), -5);
            check.due("k 4", x.order(0, 4), StepOwed.NONE);
            check.due("k -2", x.order(0, -2), StepOwed.NONE);
            check.due("free", x.free(0), -5);
            check.due("late", x.late(0, 4), -1001);
        }
    }

    private static StepOwed chase(int wall) {
        StepOwed x = new StepOwed();
        x.valley(4, 3);
        if (wall >= 0) x.wall(wall, true);
        x.person(0, 0, 3, 20);
        x.person(0, 0, 6, 20);
        x.person(0, 0, 0, 0);
        x.owe(0, 1, 5);
        x.owe(1, 2, 5);
        return x;
    }

    /** LATE of one who goes after another one, by each cell: 0, later, sooner, refused. */
    private static void laterAndSooner() {
        int[] late = {-1003, 2, 2, -1003, -1, -2, -1003, 0, 0, 0, 0, 0};
        StepOwed x = chase(-1);
        check.due("without", x.free(0), 3);
        for (int cell = 0; cell < 12; cell++) {
            check.due("late by " + cell, x.late(0, cell), late[cell]);
            if (late[cell] != -1003) check.due("if it stood, " + cell, chase(cell).free(0), 3 + late[cell]);
        }
        check.due("no wall stands", x.wall(5, false), 0);
    }

    private static void sixTracks() {
        for (int wrong = 0; wrong <= 6; wrong++) {
            StepOwed x = Scenes.line(0, 7, 15);
            for (int k = 1; k <= 6; k++) check.due("track " + k, x.track(k == wrong ? 15 : k), k);
            check.due("the seventh", x.track(7), StepOwed.FULL);
            check.due("six", x.count(2), 6);
            // Both are farther away along x, so both are gone to alike till 6.
            check.due("gone by all but " + wrong, x.owed(0), wrong == 0 ? 6 : 0);
            check.due("none then", x.track(-1), 0);
            check.due("so gone by any", x.owed(0), 6);
            check.due("of 2", x.owed(2), 3);
        }
        StepOwed y = Scenes.line(0);
        y.track(0);
        check.due("no others", y.owed(0), 0);
        StepOwed z = Scenes.line(3, 3, 2);
        z.track(3);
        check.due("who stands there stays", z.owed(0), 2);
        check.due("of the other one", z.owed(1), 1);
    }

    private static void eightRows() {
        for (int wrong = 0; wrong <= 8; wrong++) {
            StepOwed x = Scenes.line(0, 7, 3, 12);
            for (int k = 0; k < 8; k++) {
                int person = k % 4;
                int cell = x.of(person, 3) + (k == wrong ? 1 : 0);
                check.due("row " + k, x.book(person, 9 * k % 61, cell), k + 1);
            }
            check.due("the ninth", x.book(0, 0, 5), StepOwed.FULL);
            check.due("eight", x.count(3), 8);
            check.due("the first that is not so", x.looked(), wrong == 8 ? -5 : wrong);
            check.due("none then", x.book(-1, 61, -9), 0);
            check.due("all of none is so", x.looked(), -5);
        }
    }

    /** Each of the DAYS 0 .. 60: where it is then, and where it is a day sooner or later. */
    private static void daysOfBook() {
        int[] round = {9, 10, 18, 17};
        for (int n = 0; n <= 60; n++) {
            StepOwed x = told(9, 1, 3, 2, 4);
            for (int ahead = 0; ahead < 4; ahead++) {
                x.book(-1, 0, 0);
                x.book(0, n, round[(n + ahead) % 4]);
                check.due("the cell of day " + (n + ahead) + " on " + n, x.looked(), ahead == 0 ? -5 : 0);
            }
            StepOwed y = slow();
            for (int cell = 0; cell < 8; cell++) {
                y.book(-1, 0, 0);
                y.book(0, n, cell);
                check.due("cell " + cell + " on " + n, y.looked(), cell == Math.min((n + 6) / 7, 7) ? -5 : 0);
            }
        }
    }

    /** BOOK and TRACKS tell of DAYS from now: of the day on which is asked. */
    private static void fromTheDayOfAsking() {
        StepOwed x = Scenes.line(0, 7);
        x.owe(0, 1, 9);
        x.book(0, 3, 3);
        x.track(1);
        check.due("looked", x.looked(), -5);
        check.due("owed", x.owed(0), 2);
        x.day();
        check.due("looked, a day later", x.looked(), 0);
        check.due("owed, a day later", x.owed(0), 0);
        x.book(0, 2, 3);
        x.track(-1);
        x.track(2);
        check.due("the first row still", x.looked(), 0);
        check.due("owed by the day on which is asked", x.owed(0), 2);
        x.book(-1, 0, 0);
        x.book(0, 2, 3);
        check.due("looked by the day on which is asked", x.looked(), -5);
    }

    /** ODDS: on some of DAYS 0 .. n, and not only on the last. */
    private static void someOfTheDays() {
        StepOwed x = Scenes.line(0, 3, 7);
        for (int n = 0; n <= 60; n++) {
            // To 1 it comes to stay, by 1 it goes toward 2.
            check.due("met by " + n, x.odds(0, 1, n, 0), n < 3 ? 0 : 1);
            check.due("of one, " + n, x.odds(0, 1, n, 1), 1);
            check.due("2 by " + n, x.odds(0, 2, n, 0), n < 7 ? 0 : 1);
            check.due("of two, " + n, x.odds(0, 2, n, 1), n < 7 ? 1 : 2);
        }
        StepOwed y = Scenes.line(4, 4, 0, 7);
        check.due("on DAY 0", y.odds(0, 1, 0, 0), 1);
        check.due("surely", y.odds(0, 1, 0, 1), 1);
        check.due("0 in lowest terms", y.odds(0, 2, 3, 0), 0);
        check.due("is 0 / 1", y.odds(0, 2, 3, 1), 1);
        check.due("one of three", y.odds(0, 2, 4, 0), 1);
        check.due("below", y.odds(0, 2, 4, 1), 3);
    }

    private static void lowestTerms() {
        for (int people = 1; people <= 4; people++) {
            for (int sum = 0; sum <= 12; sum++) {
                StepOwed x = new StepOwed();
                for (int i = 0; i < people; i++) x.person(0, 0, 0, i == 0 ? sum : 0);
                int divisor = 1;
                for (int d = 2; d <= people; d++) if (sum % d == 0 && people % d == 0) divisor = d;
                check.due(sum + " / " + people + ", above", x.mean(0, 0), sum / divisor);
                check.due(sum + " / " + people + ", below", x.mean(60, 1), people / divisor);
            }
        }
    }

    private static int goes(int kind, int i, int x) {
        return kind == 1 || kind == 4 ? 3 * x + i : kind == 5 ? x + i ^ i : x + i;
    }

    private static int pays(int kind, int v, int i, int x) {
        int paid = goes(kind, i, x) - v;
        return kind == 2 || kind == 5 ? -paid : kind == 6 ? paid + v : paid;
    }

    private static int tells(int kind, int v, int i, int x) {
        if (kind == 4) return 2 * pays(kind, v, i, x - 1) + goes(kind, i, 2);
        int told = 2 * pays(kind, v, i, x);
        return kind == 3 || kind == 6 ? told ^ 7 : told;
    }

    /** ints, wrapping: of each KIND, with numbers about which its body wraps. */
    private static void wrapping() {
        int max = Integer.MAX_VALUE;
        int min = Integer.MIN_VALUE;
        int[] numbers = {
            max, max - 1, max - 2, max - 3, max - 12, max / 2, max / 2 + 1, max / 3, max / 3 + 1, max / 6 + 2,
            min, min + 1, min + 2, min + 3, min + 12, min / 2, min / 2 - 1, min / 3, min / 3 - 1, 0, 1, -1};
        for (int kind = 0; kind < 7; kind++) {
            for (int v = 0; v < 10; v += 3) {
                StepOwed x = new StepOwed();
                for (int i = 0; i < 4; i++) x.person(kind, v, 0, 0);
                for (int i = 0; i < 4; i += 3) {
                    for (int n : numbers) {
                        String of = " of " + n + ", kind " + kind + ", v " + v + ", number " + i;
                        check.due("goes" + of, x.act(i, 0, n), goes(kind, i, n));
                        check.due("pays" + of, x.act(i, 1, n), pays(kind, v, i, n));
                        check.due("tells" + of, x.act(i, 2, n), tells(kind, v, i, n));
                    }
                }
            }
        }
        StepOwed x = new StepOwed();
        x.person(0, 9, 0, 0);
        x.person(1, 9, 0, 0);
        x.person(2, 9, 0, 0);
        check.due("1 more than the greatest", x.act(1, 0, 715827883), min + 2);
        check.due("less than the least", x.act(0, 1, min), max - 8);
        check.due("twice the least", x.act(0, 2, min + 9), 0);
        check.due("the least stays so by -", x.act(2, 1, min + 7), min);
    }

    /** No act runs more bodies than 7, so all are kept; none is there behind them. */
    private static void bodiesKept() {
        StepOwed x = new StepOwed();
        check.due("ahead of any act", x.trace(0), StepOwed.NONE);
        x.person(4, 0, 0, 0);
        x.act(0, 2, 1);
        int[] due = {41, 3, 2, 11, 1, 11, 1};
        for (int i = -1; i < 23; i++) {
            check.due("body " + i, x.trace(i), i >= 0 && i < 7 ? due[i] : StepOwed.NONE);
        }
        check.due("all", x.count(5), 7);
        x.act(0, 0, 1);
        check.due("of the latest alone", x.count(5), 2);
        check.due("its first", x.trace(0), 11);
        check.due("no third", x.trace(2), StepOwed.NONE);
        check.due("no such act", x.act(0, 3, 1), 0);
        check.due("no trace then", x.trace(0), StepOwed.NONE);
        check.due("no bodies then", x.count(5), 0);
    }

    private static void undone(String what, Supplier<StepOwed> scene, Consumer<StepOwed> change) {
        StepOwed x = scene.get();
        int people = x.image();
        change.accept(x);
        check.due("undo of " + what, x.undo(), people);
        StepOwed twin = scene.get();
        twin.image();
        same("undo of " + what, x, twin);
    }

    private static void same(String what, StepOwed one, StepOwed other) {
        List<String> due = Show.all(other);
        String difference = Show.difference(Show.all(one), due);
        check.due(what + ": all is alike; but " + difference, difference == null);
    }

    /** Each change alone, and then all as it was. */
    private static void theImage() {
        undone("feed", Scenes::crowd, x -> x.feed('1'));
        undone("law", Scenes::crowd, StepOwed::law);
        undone("a fault", Scenes::crowd, x -> Check.law(x, ";"));
        undone("valley", Scenes::nobody, x -> x.valley(2, 8));
        undone("a wall", Scenes::crowd, x -> x.wall(0, true));
        undone("no wall", Scenes::crowd, x -> x.wall(Scenes.WALL, false));
        undone("person", Scenes::pair, x -> x.person(1, 9, 0, 999));
        undone("the first person", Scenes::nobody, x -> x.person(6, 9, 0, 999));
        undone("owe", Scenes::crowd, x -> x.owe(1, 2, 3));
        undone("another sum", Scenes::crowd, x -> x.owe(3, 0, 1));
        undone("no debt", Scenes::crowd, x -> x.owe(3, 0, 0));
        for (int k = 0; k < 4; k++) {
            int place = k;
            undone("row", Scenes::crowd, x -> x.row(3, place, 0));
        }
        undone("day", Scenes::crowd, StepOwed::day);
        undone("track", Scenes::crowd, x -> x.track(11));
        undone("no tracks", Scenes::full, x -> x.track(-1));
        undone("book", Scenes::crowd, x -> x.book(0, 0, 0));
        undone("no book", Scenes::full, x -> x.book(-1, 0, 0));
        undone("nothing", Scenes::full, x -> { });
        undone("undo", Scenes::crowd, StepOwed::undo);
    }

    /** All that there is, and not THE TRACE; and THE IMAGE stays to be gone back to again. */
    private static void imageOfAll() {
        StepOwed x = Scenes.crowd();
        check.due("image", x.image(), 4);
        for (int times = 0; times < 3; times++) {
            x.law();
            Check.feed(x, "zz");
            x.wall(0, true);
            x.owe(2, 1, 5);
            x.row(3, times, 0);
            x.track(-1);
            x.book(-1, 0, 0);
            x.day();
            x.day();
            check.due("undo", x.undo(), 4);
        }
        StepOwed twin = Scenes.crowd();
        twin.image();
        same("three times", x, twin);
        StepOwed y = Scenes.crowd();
        y.image();
        y.act(1, 2, 5);
        y.undo();
        check.due("THE TRACE is of the latest act", y.count(5), 7);
        check.due("its first", y.trace(0), 41);
        StepOwed z = new StepOwed();
        check.due("no image: STATE", z.undo(), StepOwed.STATE);
        z.image();
        z.valley(3, 7);
        z.person(0, 0, 20, 0);
        check.due("as of a new object", z.undo(), 0);
        StepOwed fresh = new StepOwed();
        fresh.image();
        same("as of a new object", z, fresh);
    }

    /** By a FAULT the tape is empty, and nothing else is other than before. */
    private static void faultsChangeNoMore() {
        for (String text : new String[] {"", "x", "come", "come 1;", "earn 99 p<9;rest p<9;come 3;earn 1 q"}) {
            StepOwed x = Scenes.crowd();
            x.law();
            check.due("a fault", Check.law(x, text) <= -10);
            StepOwed twin = Scenes.crowd();
            twin.law();
            same("behind '" + text + "'", x, twin);
        }
    }
}
