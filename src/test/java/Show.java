import java.util.ArrayList;
import java.util.List;

/**
 * All that calls show of an object, a row for each answer: first by calls that
 * only ask, then by such as change it (walls, rows, the tape, the image), so
 * that an object is of no use any more when it has been shown. Two objects that
 * show the same rows are alike as far as anybody can tell.
 */
final class Show {
    /** An object that is shown may have been called so often ahead of it, and stays within its 512 calls. */
    static final int CALLS_AHEAD = 220;

    private final StepOwed x;
    private final List<String> rows = new ArrayList<>();

    private Show(StepOwed x) {
        this.x = x;
    }

    static List<String> all(StepOwed x) {
        Show show = new Show(x);
        show.counts();
        for (int p = 0; p < 4; p++) show.person(p);
        for (int p = 0; p < 4; p++) show.daysOf(p);
        show.daysOfAll();
        show.valley();
        show.tape();
        show.image();
        if (show.rows.size() + CALLS_AHEAD > 512) throw new IllegalStateException("too many calls: " + show.rows.size());
        return show.rows;
    }

    /** The first row by which the two are not alike, or null. */
    static String difference(List<String> one, List<String> other) {
        for (int k = 0; k < Math.min(one.size(), other.size()); k++) {
            if (!one.get(k).equals(other.get(k))) return one.get(k) + ", and not " + other.get(k);
        }
        return one.size() == other.size() ? null : "as many rows";
    }

    private void row(String call, long answer) {
        rows.add(call + " = " + answer);
    }

    private void counts() {
        row("now()", x.now());
        for (int what = 0; what < 6; what++) row("count(" + what + ")", x.count(what));
        for (int i = 0; i < 6; i++) row("trace(" + i + ")", x.trace(i));
    }

    private void person(int p) {
        for (int what = 0; what < 9; what++) row("of(" + p + ", " + what + ")", x.of(p, what));
        for (int k = 0; k < 3; k++) {
            row("whom it owes: of(" + p + ", 10 + " + k + ")", x.of(p, 10 + k));
            row("the sum: of(" + p + ", 20 + " + k + ")", x.of(p, 20 + k));
        }
        row("owed(" + p + ")", x.owed(p));
        for (int k = 0; k < 7; k++) row("as(" + p + ", " + k + ")", x.as(p, k));
    }

    private void daysOf(int p) {
        for (int n = 1; n < 61; n += 29) {
            for (int what = 0; what < 3; what++) row("on(" + p + ", " + n + ", " + what + ")", x.on(p, n, what));
        }
        row("free(" + p + ")", x.free(p));
        for (int other = 0; other < p; other++) row("meet(" + p + ", " + other + ")", x.meet(p, other));
        for (int what = 0; what < 2; what++) {
            row("whom(" + p + ", 20, " + what + ")", x.whom(p, 20, what));
            row("sit(" + p + ", 3, " + what + ")", x.sit(p, 3, what));
        }
        for (int k = -1; k < 3; k++) row("order(" + p + ", " + k + ")", x.order(p, k));
        row("late(" + p + ", 14)", x.late(p, 14));
        for (int part = 0; part < 2; part++) {
            row("odds(" + p + ", " + (p + 1) % 4 + ", 60, " + part + ")", x.odds(p, (p + 1) % 4, 60, part));
        }
    }

    private void daysOfAll() {
        row("spot()", x.spot());
        row("again(0)", x.again(0));
        row("again(1)", x.again(1));
        row("mean(2, 0)", x.mean(2, 0));
        row("mean(2, 1)", x.mean(2, 1));
        row("looked()", x.looked());
    }

    private void valley() {
        for (int cell = 0; cell <= 36; cell++) row("wall(" + cell + ", false)", x.wall(cell, false));
        for (int p = 0; p < 4; p++) {
            for (int k = 0; k < 4; k++) row("row(" + p + ", " + k + ", 0)", x.row(p, k, 0));
        }
    }

    private void tape() {
        row("law()", x.law());
        row("count(1) then", x.count(1));
        for (int p = 0; p < 4; p++) row("of(" + p + ", 8) then", x.of(p, 8));
    }

    private void image() {
        row("undo()", x.undo());
        row("now() then", x.now());
        for (int what = 0; what < 5; what++) row("count(" + what + ") then", x.count(what));
        for (int p = 0; p < 4; p++) {
            for (int what = 0; what < 9; what += 2) row("of(" + p + ", " + what + ") then", x.of(p, what));
        }
        row("law() then", x.law());
    }
}
