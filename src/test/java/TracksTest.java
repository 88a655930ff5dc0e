/** Promises 21 to 26: TRACKS, OWED, ODDS, MEAN, BOOK, LOOKED at. */
final class TracksTest {
    private static final Check check = new Check("TracksTest");

    public static void main(String[] args) {
        track();
        owed();
        odds();
        refusedOdds();
        mean();
        book();
        looked();
        check.end();
    }

    private static void track() {
        StepOwed x = new StepOwed();
        check.due("none at first", x.count(2), 0);
        check.due("none of none", x.track(-1), 0);
        for (int k = 1; k <= 6; k++) check.due("track " + k, x.track(k == 1 ? 0 : 30 + k - 1), k);
        check.due("count(2)", x.count(2), 6);
        check.refused(x, "a seventh", () -> x.track(0), StepOwed.FULL);
        check.refused(x, "NONE ahead of FULL", () -> x.track(36), StepOwed.NONE);
        check.due("none then", x.track(-1), 0);
        check.due("count(2)", x.count(2), 0);
        check.refused(x, "track(36)", () -> x.track(36), StepOwed.NONE);
        check.refused(x, "track(-2)", () -> x.track(-2), StepOwed.NONE);
        check.due("a cell twice", x.track(35), 1);
        check.due("a cell twice", x.track(35), 2);
    }

    private static void owed() {
        StepOwed x = Scenes.lineOfPurses(3, 0, 0, 0, 7, 0, 5, 0);
        check.due("no tracks: all others", x.owed(0), 14);
        check.due("no tracks: all others of 2", x.owed(2), 11);
        x.track(4);
        check.due("up: to 2 and 3", x.owed(0), 12);
        x.track(5);
        check.due("two up", x.owed(0), 12);
        x.track(5);
        check.due("and there", x.owed(0), 8);
        x.owe(0, 1, 9);
        x.owe(0, 2, 9);
        check.due("whatever it owes", x.owed(0), 8);
        check.due("its debts are as they were", x.of(0, 10), 1);
        check.due("of another", x.owed(1), 0);
        x.track(-1);
        x.track(2);
        check.due("down: to 1", x.owed(0), 2);
        x.track(2);
        check.due("nobody", x.owed(0), 0);
        check.refused(x, "owed(4)", () -> x.owed(4), StepOwed.NONE);
        check.refused(x, "owed(-1)", () -> x.owed(-1), StepOwed.NONE);
        // With 99 and no more it is free on coming, and goes home.
        StepOwed y = new StepOwed();
        y.valley(8, 2);
        y.person(3, 0, 0, 99);
        y.person(0, 0, 1, 0);
        y.person(0, 0, 9, 0);
        y.owe(0, 2, 50);
        for (int cell : new int[] {1, 0, 0, 0}) y.track(cell);
        check.due("its debts were only 99", y.owed(0), 2);
        StepOwed z = new StepOwed();
        z.valley(8, 2);
        z.person(3, 0, 0, 98);
        z.person(0, 0, 1, 0);
        for (int cell : new int[] {1, 1}) z.track(cell);
        check.due("with 98 it stays", z.owed(0), 2);
        StepOwed w = new StepOwed();
        w.person(0, 0, 0, 0);
        check.due("no others", w.owed(0), 0);
        // Tracks of a valley that is gone are gone by in no way.
        StepOwed v = new StepOwed();
        v.track(35);
        v.valley(2, 2);
        v.person(0, 0, 0, 0);
        v.person(0, 0, 3, 0);
        check.due("a cell that is no more", v.owed(0), 0);
        check.due("is told still", v.count(2), 1);
        // The other's own debts count.
        StepOwed u = Scenes.lineOfPurses(0, 0, 1, 0, 3, 0);
        u.owe(1, 2, 9);
        for (int cell : new int[] {1, 2, 3, 3}) u.track(cell);
        check.due("after one who goes", u.owed(0), 6);
    }

    private static void fraction(String what, StepOwed x, int one, int other, int n, long above, long below) {
        check.due(what + ", above", x.odds(one, other, n, 0), above);
        check.due(what + ", below", x.odds(one, other, n, 1), below);
    }

    private static void odds() {
        StepOwed x = Scenes.lineOfPurses(3, 0, 0, 0, 7, 0, 5, 0);
        fraction("to meet 3 by 1", x, 0, 3, 1, 0, 1);
        fraction("to meet 3 by 2", x, 0, 3, 2, 2, 3);
        fraction("to meet 1 by 2", x, 0, 1, 2, 0, 1);
        fraction("to meet 1 by 3", x, 0, 1, 3, 1, 3);
        fraction("to meet 1 by 60", x, 0, 1, 60, 1, 3);
        x.owe(0, 2, 9);
        fraction("not whom it owes", x, 0, 3, 60, 1, 2);
        fraction("ahead of what it owes", x, 0, 2, 60, 0, 1);
        x.owe(0, 3, 9);
        fraction("only 1 is left", x, 0, 1, 60, 1, 1);
        fraction("only 1 is left", x, 0, 1, 2, 0, 1);
        StepOwed w = Scenes.lineOfPurses(0, 0, 3, 0, 7, 0);
        fraction("of a greater number: toward 0 or 2", w, 1, 0, 60, 1, 2);
        fraction("of a greater number, the other", w, 2, 1, 60, 1, 1);
        StepOwed y = Scenes.lineOfPurses(3, 0, 3, 0, 0, 0);
        fraction("on day 0", y, 0, 1, 0, 1, 1);
        StepOwed z = Scenes.lineOfPurses(3, 99, 2, 0, 6, 0);
        z.owe(0, 2, 5);
        fraction("it pays 99 and goes on", z, 0, 2, 5, 1, 1);
        fraction("not sooner", z, 0, 2, 4, 0, 1);
    }

    private static void refusedOdds() {
        StepOwed x = Scenes.lineOfPurses(3, 0, 0, 0, 7, 0);
        long no = Long.MIN_VALUE;
        check.due("NO", StepOwed.NO, no);
        check.refused(x, "one", () -> x.odds(3, 0, 0, 0), no);
        check.refused(x, "one", () -> x.odds(-1, 0, 0, 0), no);
        check.refused(x, "other", () -> x.odds(0, 3, 0, 0), no);
        check.refused(x, "other", () -> x.odds(0, -1, 0, 0), no);
        check.refused(x, "one is both", () -> x.odds(1, 1, 0, 0), no);
        check.refused(x, "n 61", () -> x.odds(0, 1, 61, 0), no);
        check.refused(x, "n -1", () -> x.odds(0, 1, -1, 0), no);
        check.refused(x, "part 2", () -> x.odds(0, 1, 0, 2), no);
        check.refused(x, "part -1", () -> x.odds(0, 1, 0, -1), no);
        x.owe(0, 1, 1);
        x.owe(0, 2, 1);
        check.refused(x, "it owes all others", () -> x.odds(0, 1, 0, 0), no);
        check.refused(x, "it owes all others", () -> x.odds(0, 1, 0, 1), no);
        StepOwed y = Scenes.lineOfPurses(3, 0);
        check.due("alone", y.odds(0, 0, 0, 0), no);
    }

    private static void mean(String what, StepOwed x, int n, long above, long below) {
        check.due(what + ", above", x.mean(n, 0), above);
        check.due(what + ", below", x.mean(n, 1), below);
    }

    private static void mean() {
        long no = Long.MIN_VALUE;
        StepOwed x = new StepOwed();
        check.refused(x, "nobody", () -> x.mean(0, 0), no);
        check.refused(x, "nobody", () -> x.mean(0, 1), no);
        x.person(0, 0, 0, 5);
        mean("one", x, 0, 5, 1);
        x.person(0, 0, 1, 6);
        mean("two", x, 0, 11, 2);
        x.person(0, 0, 1, 4);
        mean("three", x, 0, 5, 1);
        x.person(0, 0, 1, 3);
        mean("four", x, 0, 9, 2);
        Check.law(x, "earn 3 p=0");
        mean("on day 1", x, 1, 21, 4);
        mean("on day 2", x, 2, 6, 1);
        mean("on day 60", x, 60, 99, 2);
        x.day();
        mean("from now", x, 1, 6, 1);
        check.refused(x, "n 61", () -> x.mean(61, 0), no);
        check.refused(x, "n -1", () -> x.mean(-1, 0), no);
        check.refused(x, "part 2", () -> x.mean(0, 2), no);
        check.refused(x, "part -1", () -> x.mean(0, -1), no);
        mean("nothing", Scenes.lineOfPurses(0, 0, 1, 0, 2, 0), 5, 0, 1);
        mean("most", Scenes.lineOfPurses(0, 999, 1, 999, 2, 999, 3, 999), 0, 999, 1);
        StepOwed y = Scenes.lineOfPurses(0, 99, 0, 990);
        y.owe(0, 1, 99);
        mean("what is above 999 is lost", y, 1, 999, 2);
    }

    private static void book() {
        StepOwed x = new StepOwed();
        check.due("none of none", x.book(-1, 99, 99), 0);
        check.refused(x, "nobody", () -> x.book(0, 0, 0), StepOwed.NONE);
        x.person(0, 0, 0, 0);
        check.refused(x, "book(1)", () -> x.book(1, 0, 0), StepOwed.NONE);
        check.refused(x, "book(-2)", () -> x.book(-2, 0, 0), StepOwed.NONE);
        check.refused(x, "cell 36", () -> x.book(0, 0, 36), StepOwed.NONE);
        check.refused(x, "cell -1", () -> x.book(0, 0, -1), StepOwed.NONE);
        check.refused(x, "n 61", () -> x.book(0, 61, 0), StepOwed.BAD);
        check.refused(x, "n -1", () -> x.book(0, -1, 0), StepOwed.BAD);
        check.refused(x, "NONE of person ahead of BAD", () -> x.book(1, 61, 0), StepOwed.NONE);
        check.refused(x, "NONE of cell ahead of BAD", () -> x.book(0, 61, 36), StepOwed.NONE);
        for (int k = 1; k <= 8; k++) check.due("row " + k, x.book(0, k * 7, 0), k);
        check.due("count(3)", x.count(3), 8);
        check.refused(x, "a ninth", () -> x.book(0, 0, 0), StepOwed.FULL);
        check.refused(x, "NONE ahead of FULL", () -> x.book(0, 0, 36), StepOwed.NONE);
        check.refused(x, "BAD ahead of FULL", () -> x.book(0, 61, 0), StepOwed.BAD);
        check.due("all is so", x.looked(), -5);
        check.due("none then, whatever the others", x.book(-1, -7, 4000), 0);
        check.due("count(3)", x.count(3), 0);
    }

    private static void looked() {
        StepOwed x = new StepOwed();
        x.valley(8, 8);
        x.person(0, 0, 0, 0);
        x.person(0, 0, 63, 0);
        x.person(0, 0, 62, 0);
        x.person(0, 0, 61, 0);
        x.owe(0, 1, 9);
        check.due("no book", x.looked(), -5);
        x.book(3, 60, 61);
        x.book(0, 0, 0);
        x.book(0, 14, 63);
        x.book(0, 60, 63);
        x.book(1, 60, 63);
        check.due("all is so", x.looked(), -5);
        x.book(0, 13, 63);
        check.due("the sixth is not", x.looked(), 5);
        x.book(0, 1, 1);
        check.due("still the sixth", x.looked(), 5);
        x.day();
        check.due("a day later the second is not", x.looked(), 1);
        x.book(-1, 0, 0);
        x.book(0, 0, 2);
        check.due("row 0", x.looked(), 0);
        x.book(-1, 0, 0);
        x.book(0, 0, 1);
        check.due("now it is at 1", x.looked(), -5);
        x.book(2, 3, 63);
        check.due("row 1", x.looked(), 1);
    }
}
