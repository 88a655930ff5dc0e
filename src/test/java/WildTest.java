/**
 * Calls with any numbers at all, in any state, far beyond the 512 that are
 * promised: the machine must never throw, every call must end, and a day as
 * far off as 999 must refuse the next one.
 */
final class WildTest {
    private static final Check check = new Check("WildTest");
    private static final int[] NUMBERS = {
        0, 1, 2, 3, 4, 5, 6, 7, 8, 9, 10, 30, 35, 36, 60, 61, 63, 64, 99, 100, 127, 128, 999, 1000,
        -1, -2, -3, -5, -100, 1 << 12, 1 << 30, Integer.MAX_VALUE, Integer.MAX_VALUE - 1, Integer.MIN_VALUE, Integer.MIN_VALUE + 1};
    private static long seed = 11;

    public static void main(String[] args) {
        for (int run = 0; run < 60; run++) wild(run % 3);
        lastDay();
        check.end();
    }

    private static int below(int bound) {
        seed = seed * 6364136223846793005L + 1442695040888963407L;
        return (int) ((seed >>> 33) % bound);
    }

    /** The tamer, the more often a number may be right. */
    private static int number(int tame) {
        return tame > 0 && below(4) < tame + 1 ? below(tame == 2 ? 4 : 12) : NUMBERS[below(NUMBERS.length)];
    }

    private static void wild(int tame) {
        StepOwed x = new StepOwed();
        String law = "earn 12 p=0|x<3&!(y>2);rest d=6&k<2;come 1;";
        int fed = 0;
        int calls = 0;
        long sum = 0;
        for (; calls < 1500; calls++) {
            int a = number(tame);
            int b = number(tame);
            int c = number(tame);
            int d = number(tame);
            if (below(3) == 0) sum += x.feed(law.charAt(fed++ % law.length()));
            sum += call(x, below(31), a, b, c, d);
        }
        check.due("it has come so far: " + sum, calls, 1500);
    }

    private static long call(StepOwed x, int which, int a, int b, int c, int d) {
        switch (which) {
            case 0: return x.feed(a);
            case 1: return x.law();
            case 2: return x.valley(a, b);
            case 3: return x.wall(a, (b & 1) == 0);
            case 4: return x.person(a, b, c, d);
            case 5: return x.of(a, b);
            case 6: return x.owe(a, b, c);
            case 7: return x.row(a, b, c);
            case 8: return x.now();
            case 9: return x.day();
            case 10: return x.on(a, b, c);
            case 11: return x.meet(a, b);
            case 12: return x.free(a);
            case 13: return x.spot();
            case 14: return x.again(a);
            case 15: return x.whom(a, b, c);
            case 16: return x.order(a, b);
            case 17: return x.late(a, b);
            case 18: return x.sit(a, b, c);
            case 19: return x.track(a);
            case 20: return x.owed(a);
            case 21: return x.odds(a, b, c, d);
            case 22: return x.mean(a, b);
            case 23: return x.book(a, b, c);
            case 24: return x.looked();
            case 25: return x.act(a, b, c);
            case 26: return x.trace(a);
            case 27: return x.as(a, b);
            case 28: return x.image();
            case 29: return below(4) == 0 ? x.undo() : 0;
            default: return x.count(a);
        }
    }

    /** Beyond 512 calls nothing is promised; but a run of days ends as the document says. */
    private static void lastDay() {
        StepOwed x = new StepOwed();
        x.person(6, 0, 0, 0);
        x.person(0, 0, 35, 0);
        x.owe(0, 1, 9);
        x.row(0, 0, 1);
        x.row(0, 2, 2);
        for (int n = 1; n <= 999; n++) check.due("day()", x.day(), n);
        check.due("on the last day", x.day(), StepOwed.STATE);
        check.due("it stays", x.now(), 999);
        // 999 is 3 modulo 4: it stays once, and then goes as its ROW tells.
        int[] at = {0, 0, 1, 1, 0, 0, 1};
        for (int n = 0; n < at.length; n++) check.due("days beyond go on, " + n, x.on(0, n, 0), at[n]);
    }
}
