/** Objects that several tests begin with. */
final class Scenes {
    /** In all of six by six cells: a wall, the home of 0, where 0 IS in a crowd (its home it has left). */
    static final int WALL = 2, HOME = 7, AT = 8;

    static StepOwed nobody() {
        StepOwed x = new StepOwed();
        x.wall(WALL, true);
        Check.feed(x, "come");
        x.track(0);
        return x;
    }

    static StepOwed pair() {
        StepOwed x = nobody();
        x.person(0, 1, HOME, 12);
        x.person(6, 2, 35, 3);
        x.owe(0, 1, 9);
        return x;
    }

    /** Four people after some days, with all that an object can hold, and an image of another state. */
    static StepOwed crowd() {
        StepOwed x = new StepOwed();
        x.wall(WALL, true);
        Check.law(x, "come 1;earn 2 p=2");
        x.person(0, 1, HOME, 12);
        x.person(4, 2, 17, 30);
        x.image();
        x.person(5, 3, 30, 5);
        x.person(6, 2, 35, 3);
        x.owe(0, 1, 9);
        x.owe(0, 3, 4);
        x.owe(3, 0, 99);
        x.owe(1, 0, 7);
        for (int k = 0; k < 4; k++) x.row(3, k, 1 + (k + 3) % 4);
        Check.law(x, "earn 3 p=1;rest p=2&d=4");
        Check.feed(x, "earn 5 p=3");
        for (int n = 0; n < 3; n++) x.day();
        x.track(AT);
        x.track(10);
        x.book(0, 0, AT);
        x.book(1, 3, 7);
        x.act(3, 0, 5);
        x.act(3, 2, 5);
        return x;
    }

    /** The crowd with five laws, six tracks and eight rows of a book that are all gone by, and a full tape. */
    static StepOwed full() {
        StepOwed x = crowd();
        x.law();
        Check.law(x, "come 2");
        Check.law(x, "rest p=0");
        x.track(-1);
        for (int k = 0; k < 6; k++) x.track(AT);
        x.book(-1, 0, 0);
        for (int k = 0; k < 8; k++) x.book(k % 4, 7 * k, x.on(k % 4, 7 * k, 0));
        for (int k = 0; k < 100; k++) x.feed('c');
        return x;
    }

    /** WALKERS on a line of 8 (and one more below it). */
    static StepOwed line(int... homes) {
        StepOwed x = new StepOwed();
        x.valley(8, 2);
        for (int home : homes) x.person(0, 0, home, 0);
        return x;
    }

    /** The same: a home and a purse of each. */
    static StepOwed lineOfPurses(int... homesAndPurses) {
        StepOwed x = line();
        for (int k = 0; k < homesAndPurses.length; k += 2) x.person(0, 0, homesAndPurses[k], homesAndPurses[k + 1]);
        return x;
    }
}
