/**
 * Long runs of calls, made from fixed seeds, that the class and the model of
 * the document must answer alike: every promise, in states that hands would
 * not think of. Arguments are wrong now and then.
 */
final class ModelTest {
    private static final int RUNS = 300;
    private static final int CALLS = 512;

    private final Check check = new Check("ModelTest");
    private final int[] asked = new int[32];
    private long seed;
    private StepOwed x;
    private Model m;
    private int run;
    private int calls;
    private boolean small;

    public static void main(String[] args) {
        new ModelTest().all(args.length > 0 ? Integer.parseInt(args[0]) : RUNS);
    }

    private void all(int runs) {
        for (run = 0; run < runs; run++) {
            seed = run * 7919L + 17;
            for (int k = 0; k < 5; k++) below(2);
            one();
        }
        for (int k = 0; k < asked.length; k++) check.due("call " + k + " was made", asked[k] > 0);
        check.end();
    }

    private int below(int bound) {
        seed = seed * 6364136223846793005L + 1442695040888963407L;
        return (int) ((seed >>> 33) % bound);
    }

    private boolean in(int of) {
        return below(of) == 0;
    }

    private void one() {
        x = new StepOwed();
        m = new Model();
        calls = 0;
        small = in(2);
        if (!in(6)) set(2 + below(small ? 3 : 7), 2 + below(small ? 3 : 7));
        for (int k = below(8); k > 0; k--) call(3);
        for (int k = below(6); k > 0; k--) call(4);
        if (in(2)) feedLaw();
        for (int k = below(9); k > 0; k--) call(6);
        for (int k = below(6); k > 0; k--) call(7);
        while (calls < CALLS - 1 && check.wrong() < 20) {
            if (in(25)) feedLaw();
            else if (in(6)) call(9 + below(2));
            else if (in(40)) call(29 + below(2));
            else if (in(3)) call(below(32));
            else call(3 + below(28));
        }
    }

    private void set(int wide, int high) {
        due("valley(" + wide + ", " + high + ")", x.valley(wide, high), m.valley(wide, high));
    }

    private void due(String call, long got, long want) {
        calls++;
        check.due("run " + run + " call " + calls + " " + call, got, want);
    }

    // Numbers that are mostly right, and now and then just beyond.

    private int person() {
        return in(25) ? below(7) - 2 : below(Math.max(1, m.count(0)));
    }

    private int cell() {
        if (in(25)) return below(70) - 3;
        return small ? below(12) : below(40);
    }

    private int upTo(int last) {
        return in(30) ? (in(2) ? -1 - below(3) : last + 1 + below(3)) : below(last + 1);
    }

    private void feedLaw() {
        String text = law();
        for (int k = 0; k < text.length() && calls < CALLS; k++) feed(text.charAt(k));
        if (calls < CALLS) due("law()", x.law(), m.law());
    }

    private void feed(int sign) {
        due("feed(" + sign + ")", x.feed(sign), m.feed(sign));
    }

    private String law() {
        StringBuilder t = new StringBuilder();
        int clauses = in(12) ? 8 + below(4) : 1 + below(4);
        for (int k = 0; k < clauses; k++) {
            if (k > 0) t.append(';');
            int word = below(5);
            if (word < 2) t.append("earn ").append(number()).append(' ').append(tests(0));
            else if (word < 4) t.append("rest ").append(tests(0));
            else t.append("come ").append(number());
        }
        if (in(3)) spoil(t);
        return t.toString();
    }

    private void spoil(StringBuilder t) {
        int at = below(t.length());
        int how = below(4);
        if (how == 0) t.setLength(at);
        else if (how == 1) t.deleteCharAt(at);
        else if (how == 2) t.insert(at, " ;&|!()<=>0123pkxydoearnstcm".charAt(below(28)));
        else t.setCharAt(at, " ;&|!()<=>0123pkxydoearnstcm".charAt(below(28)));
    }

    private String number() {
        return String.valueOf(in(2) ? below(100) : below(12));
    }

    private String tests(int open) {
        StringBuilder t = new StringBuilder();
        int tests = 1 + (in(2) ? below(3) : 0);
        for (int k = 0; k < tests; k++) {
            if (k > 0) t.append(in(2) ? '&' : '|');
            if (open < 6 && in(4)) {
                t.append(in(2) ? "!" + factor(open + 1) : "(" + tests(open + 1) + ")");
            } else {
                t.append(factor(open));
            }
        }
        return t.toString();
    }

    private String factor(int open) {
        if (open < 6 && in(4)) return in(2) ? "!" + factor(open + 1) : "(" + tests(open + 1) + ")";
        return "" + "pkxydo".charAt(below(6)) + "<=>".charAt(below(3)) + below(in(8) ? 30 : 6);
    }

    private void call(int which) {
        asked[which]++;
        if (which < 11) callOfPeople(which);
        else if (which < 20) callOfDays(which);
        else callOfTracks(which);
    }

    private void callOfPeople(int which) {
        int p = person();
        int q = person();
        int c = cell();
        switch (which) {
            case 0: feed(in(30) ? below(140) - 5 : 32 + below(90)); break;
            case 1: due("law()", x.law(), m.law()); break;
            case 2: set(1 + below(9), 1 + below(9)); break;
            case 3: {
                boolean is = !in(4);
                due("wall(" + c + ", " + is + ")", x.wall(c, is), m.wall(c, is));
                break;
            }
            case 4: {
                int kind = upTo(6);
                int v = upTo(9);
                int purse = in(3) ? upTo(999) : below(30);
                due("person(" + kind + ", " + v + ", " + c + ", " + purse + ")",
                    x.person(kind, v, c, purse), m.person(kind, v, c, purse));
                break;
            }
            case 5: {
                int what = upTo(25);
                due("of(" + p + ", " + what + ")", x.of(p, what), m.of(p, what));
                break;
            }
            case 6: {
                int sum = in(5) ? 0 : in(2) ? below(15) : upTo(99);
                due("owe(" + p + ", " + q + ", " + sum + ")", x.owe(p, q, sum), m.owe(p, q, sum));
                break;
            }
            case 7: {
                int k = upTo(3);
                int way = upTo(4);
                due("row(" + p + ", " + k + ", " + way + ")", x.row(p, k, way), m.row(p, k, way));
                break;
            }
            case 8: due("now()", x.now(), m.now()); break;
            default: due("day()", x.day(), m.day());
        }
    }

    private void callOfDays(int which) {
        int p = person();
        int q = person();
        int c = cell();
        int what = upTo(1);
        switch (which) {
            case 11: {
                int n = upTo(60);
                int w = upTo(2);
                due("on(" + p + ", " + n + ", " + w + ")", x.on(p, n, w), m.on(p, n, w));
                break;
            }
            case 12: due("meet(" + p + ", " + q + ")", x.meet(p, q), m.meet(p, q)); break;
            case 13: due("free(" + p + ")", x.free(p), m.free(p)); break;
            case 14: due("spot()", x.spot(), m.spot()); break;
            case 15: due("again(" + what + ")", x.again(what), m.again(what)); break;
            case 16:
                due("whom(" + p + ", " + c + ", " + what + ")", x.whom(p, c, what), m.whom(p, c, what));
                break;
            case 17: {
                int k = in(2) ? -1 : upTo(4) - 1;
                due("order(" + p + ", " + k + ")", x.order(p, k), m.order(p, k));
                break;
            }
            case 18: due("late(" + p + ", " + c + ")", x.late(p, c), m.late(p, c)); break;
            default: {
                // Its model is the slowest of all.
                if (!small && !in(4)) return;
                int n = in(4) ? upTo(30) : below(12);
                due("sit(" + p + ", " + n + ", " + what + ")", x.sit(p, n, what), m.sit(p, n, what));
            }
        }
    }

    private void callOfTracks(int which) {
        int p = person();
        int q = person();
        int c = cell();
        int n = upTo(60);
        int part = upTo(1);
        switch (which) {
            case 20: {
                // Often where somebody will be, so that tracks are gone by now and then.
                int t = in(3) ? -1 : in(5) ? c : m.on(p, Math.min(m.count(2) + 1, 60), 0);
                due("track(" + t + ")", x.track(t), m.track(t));
                break;
            }
            case 21: due("owed(" + p + ")", x.owed(p), m.owed(p)); break;
            case 22:
                due("odds(" + p + ", " + q + ", " + n + ", " + part + ")", x.odds(p, q, n, part), m.odds(p, q, n, part));
                break;
            case 23: due("mean(" + n + ", " + part + ")", x.mean(n, part), m.mean(n, part)); break;
            case 24: {
                int b = in(8) ? -1 : p;
                int at = in(3) ? c : m.on(p, Math.max(0, Math.min(n, 60)), 0);
                due("book(" + b + ", " + n + ", " + at + ")", x.book(b, n, at), m.book(b, n, at));
                break;
            }
            case 25: due("looked()", x.looked(), m.looked()); break;
            case 26: {
                int act = upTo(2);
                int v = in(5) ? Integer.MIN_VALUE + below(9) : in(2) ? Integer.MAX_VALUE - below(1000000) : below(100);
                due("act(" + p + ", " + act + ", " + v + ")", x.act(p, act, v), m.act(p, act, v));
                due("count(5)", x.count(5), m.count(5));
                break;
            }
            case 27: {
                int i = upTo(8);
                due("trace(" + i + ")", x.trace(i), m.trace(i));
                break;
            }
            case 28: {
                int k = upTo(6);
                due("as(" + p + ", " + k + ")", x.as(p, k), m.as(p, k));
                break;
            }
            case 29: due("image()", x.image(), m.image()); break;
            case 30: due("undo()", x.undo(), m.undo()); break;
            default: {
                int w = upTo(5);
                due("count(" + w + ")", x.count(w), m.count(w));
            }
        }
    }
}
