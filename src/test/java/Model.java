import java.util.ArrayList;
import java.util.HashMap;
import java.util.HashSet;
import java.util.List;
import java.util.Map;
import java.util.Set;
import java.util.function.Predicate;
import java.util.regex.Matcher;
import java.util.regex.Pattern;

/**
 * The document once more, written from its words alone and in another way than
 * the class: laws by rewriting of texts, days by copies of all that there is.
 */
final class Model {
    static final int NONE = -1, BAD = -2, STATE = -3, FULL = -4;
    static final long NO = Long.MIN_VALUE;

    /** Whom, and how much. */
    record Debt(int to, int sum) { }

    static final class Being {
        int kind, v, home, at, purse;
        List<Debt> debts = new ArrayList<>();
        int[] row = new int[4];

        Being copy() {
            Being b = new Being();
            b.kind = kind;
            b.v = v;
            b.home = home;
            b.at = at;
            b.purse = purse;
            b.debts = new ArrayList<>(debts);
            b.row = row.clone();
            return b;
        }

        boolean owes(int other) {
            return debts.stream().anyMatch(d -> d.to() == other);
        }
    }

    static final class All {
        int wide = 6, high = 6, day = 0, laws = 0;
        Set<Integer> walls = new HashSet<>();
        List<Being> people = new ArrayList<>();
        String law = "";
        String tape = "";
        List<Integer> tracks = new ArrayList<>();
        List<int[]> book = new ArrayList<>();

        All copy() {
            All a = new All();
            a.wide = wide;
            a.high = high;
            a.day = day;
            a.laws = laws;
            a.walls = new HashSet<>(walls);
            for (Being b : people) a.people.add(b.copy());
            a.law = law;
            a.tape = tape;
            a.tracks = new ArrayList<>(tracks);
            a.book = new ArrayList<>(book);
            return a;
        }
    }

    private All all = new All();
    private All image = null;
    private List<Integer> bodies = new ArrayList<>();

    // ------------------------------------------------------------ laws

    private static final Pattern TEST = Pattern.compile("[pkxydo][<=>](?:[1-9][0-9]|[0-9])(?![0-9])");

    /** Whether a text is an E with at most 5 of ! and ( open: digits stand for what is open in an F. */
    static boolean isE(String text) {
        if (text.indexOf('#') >= 0) return false;
        String t = TEST.matcher(text).replaceAll("#0");
        for (int k = 0; k < 400; k++) {
            String was = t;
            Matcher m = Pattern.compile("!#([0-4])").matcher(t);
            if (m.find()) {
                t = t.substring(0, m.start()) + "#" + (Integer.parseInt(m.group(1)) + 1) + t.substring(m.end());
                continue;
            }
            m = Pattern.compile("\\(#([0-4])\\)").matcher(t);
            if (m.find()) {
                t = t.substring(0, m.start()) + "#" + (Integer.parseInt(m.group(1)) + 1) + t.substring(m.end());
                continue;
            }
            m = Pattern.compile("(?<!!)#([0-5])[&|]#([0-5])").matcher(t);
            if (m.find()) {
                int deeper = Math.max(Integer.parseInt(m.group(1)), Integer.parseInt(m.group(2)));
                t = t.substring(0, m.start()) + "#" + deeper + t.substring(m.end());
            }
            if (t.equals(was)) break;
        }
        return t.matches("#[0-5]");
    }

    static boolean isClause(String c) {
        Matcher earn = Pattern.compile("earn (?:0|[1-9][0-9]?) (.*)", Pattern.DOTALL).matcher(c);
        if (earn.matches()) return isE(earn.group(1));
        if (c.startsWith("rest ")) return isE(c.substring(5));
        return c.matches("come (?:0|[1-9][0-9]?)");
    }

    static boolean isLaw(String text) {
        String[] parts = text.split(";", -1);
        if (parts.length > 10) return false;
        for (String part : parts) if (!isClause(part)) return false;
        return true;
    }

    private static final List<String> ENDINGS = new ArrayList<>();

    static {
        for (String whole : new String[] {"earn 1 p=1", "rest p=1", "come 1"}) {
            for (int from = 0; from <= whole.length(); from++) {
                for (int close = 0; close <= 5; close++) ENDINGS.add(whole.substring(from) + ")".repeat(close));
            }
        }
    }

    /** Whether some LAW (of any size) begins so. */
    static boolean canGoOn(String begin) {
        for (String ending : ENDINGS) if (isLaw(begin + ending)) return true;
        return false;
    }

    static int fault(String text) {
        for (int k = 0; k < text.length(); k++) if (!canGoOn(text.substring(0, k + 1))) return k;
        return isLaw(text) ? -1 : text.length();
    }

    private static final Map<String, Map<Long, Boolean>> KNOWN = new HashMap<>();

    private boolean holds(All a, int i, String e) {
        Being b = a.people.get(i);
        int[] facts = {i, b.kind, b.at % a.wide, b.at / a.wide, a.day % 7, b.debts.size()};
        long key = 0;
        for (int f : facts) key = key * 100 + f;
        return KNOWN.computeIfAbsent(e, k -> new HashMap<>()).computeIfAbsent(key, k -> truth(e, facts));
    }

    static boolean truth(String e, int[] facts) {
        StringBuilder t = new StringBuilder();
        Matcher m = TEST.matcher(e);
        int end = 0;
        while (m.find()) {
            t.append(e, end, m.start());
            String g = m.group();
            int fact = facts["pkxydo".indexOf(g.charAt(0))];
            int n = Integer.parseInt(g.substring(2));
            boolean so = g.charAt(1) == '<' ? fact < n : g.charAt(1) == '=' ? fact == n : fact > n;
            t.append(so ? 'T' : 'F');
            end = m.end();
        }
        t.append(e.substring(end));
        String s = t.toString();
        for (int k = 0; k < 400 && s.length() > 1; k++) {
            String was = s;
            s = s.replace("!T", "F").replace("!F", "T").replace("(T)", "T").replace("(F)", "F");
            if (!s.equals(was)) continue;
            s = s.replaceFirst("(?<!!)T&T", "T");
            if (!s.equals(was)) continue;
            s = s.replaceFirst("(?<!!)(?:T&F|F&T|F&F)", "F");
            if (!s.equals(was)) continue;
            s = s.replaceFirst("(?<![!&])(?:T\\|T|T\\|F|F\\|T)(?!&)", "T");
            if (!s.equals(was)) continue;
            s = s.replaceFirst("(?<![!&])F\\|F(?!&)", "F");
        }
        if (s.length() != 1) throw new IllegalStateException(e + " became " + s);
        return s.equals("T");
    }

    private static String[] clauses(All a) {
        return a.law.isEmpty() ? new String[0] : a.law.split(";");
    }

    private int earns(All a, int i) {
        int sum = 0;
        for (String c : clauses(a)) {
            if (!c.startsWith("earn ")) continue;
            String[] parts = c.split(" ");
            if (holds(a, i, parts[2])) sum += Integer.parseInt(parts[1]);
        }
        return sum;
    }

    private boolean rests(All a, int i) {
        for (String c : clauses(a)) if (c.startsWith("rest ") && holds(a, i, c.substring(5))) return true;
        return false;
    }

    private static int come(All a) {
        int come = 0;
        for (String c : clauses(a)) if (c.startsWith("come ")) come = Integer.parseInt(c.substring(5));
        return come;
    }

    // ------------------------------------------------------------ a day

    private int aim(All a, int i) {
        Being b = a.people.get(i);
        if (!b.debts.isEmpty()) return a.people.get(b.debts.get(0).to()).at;
        if (b.kind == 3 || b.kind == 6) return b.home;
        if (come(a) % 2 == 0) return -5;
        for (Being other : a.people) if (other.owes(i)) return other.at;
        return -5;
    }

    private int steps(All a, int i) {
        Being b = a.people.get(i);
        if (rests(a, i)) return 0;
        if (b.kind == 1) return 2;
        if (b.kind == 4 && b.purse > 10 * b.v) return 2;
        if (b.kind == 5 && a.day % (b.v + 2) == 0) return 0;
        return 1;
    }

    private static boolean open(All a, int x, int y) {
        return x >= 0 && y >= 0 && x < a.wide && y < a.high && !a.walls.contains(a.wide * y + x);
    }

    private int step(All a, int i, int from, int aim) {
        Being b = a.people.get(i);
        int x = from % a.wide;
        int y = from / a.wide;
        if (b.kind == 6 && !b.debts.isEmpty()) {
            int way = b.row[a.day % 4];
            int tx = x + (way == 1 ? 1 : way == 2 ? -1 : 0);
            int ty = y + (way == 3 ? 1 : way == 4 ? -1 : 0);
            return open(a, tx, ty) ? a.wide * ty + tx : from;
        }
        if (aim < 0 || aim == from) return from;
        int dx = aim % a.wide - x;
        int dy = aim / a.wide - y;
        List<int[]> tries = new ArrayList<>();
        int[] alongX = {x + Integer.signum(dx), y};
        int[] alongY = {x, y + Integer.signum(dy)};
        boolean shy = b.kind == 2 || b.kind == 5;
        if (dx == 0) {
            tries.add(alongY);
        } else if (dy == 0) {
            tries.add(alongX);
        } else if (Math.abs(dx) == Math.abs(dy) || (Math.abs(dx) < Math.abs(dy)) == shy) {
            tries.add(alongX);
            tries.add(alongY);
        } else {
            tries.add(alongY);
            tries.add(alongX);
        }
        for (int[] t : tries) if (open(a, t[0], t[1])) return a.wide * t[1] + t[0];
        return from;
    }

    private All next(All a) {
        All b = a.copy();
        int n = a.people.size();
        int[] to = new int[n];
        for (int i = 0; i < n; i++) {
            to[i] = a.people.get(i).at;
            int aim = aim(a, i);
            for (int k = steps(a, i); k > 0; k--) to[i] = step(a, i, to[i], aim);
        }
        for (int i = 0; i < n; i++) {
            int mine = a.people.get(i).at;
            boolean stays = false;
            for (int j = 0; j < i; j++) {
                int other = a.people.get(j).at;
                if (mine != other && to[i] == other && to[j] == mine) stays = true;
            }
            b.people.get(i).at = stays ? mine : to[i];
        }
        for (int i = 0; i < n; i++) {
            Being one = b.people.get(i);
            one.purse = Math.min(999, one.purse + earns(a, i));
            while (!one.debts.isEmpty() && one.purse > 0) {
                Debt debt = one.debts.get(0);
                Being to1 = b.people.get(debt.to());
                if (to1.at != one.at) break;
                int paid = Math.min(debt.sum(), one.purse);
                one.purse -= paid;
                to1.purse = Math.min(999, to1.purse + paid);
                if (paid == debt.sum()) one.debts.remove(0);
                else one.debts.set(0, new Debt(debt.to(), debt.sum() - paid));
            }
        }
        b.day++;
        return b;
    }

    private All after(All a, int n) {
        for (int k = 0; k < n; k++) a = next(a);
        return a;
    }

    private int first(All a, int from, int to, Predicate<All> so) {
        a = after(a, from);
        for (int n = from; n <= to; n++) {
            if (so.test(a)) return n;
            if (n < to) a = next(a);
        }
        return -5;
    }

    // ------------------------------------------------------------ the calls

    private boolean isOne(int i) {
        return i >= 0 && i < all.people.size();
    }

    private boolean isCell(int c) {
        return c >= 0 && c < all.wide * all.high;
    }

    private boolean taken(int cell) {
        return all.people.stream().anyMatch(b -> b.home == cell || b.at == cell);
    }

    int feed(int sign) {
        if (sign < 0 || sign > 127) return BAD;
        if (all.tape.length() == 100) return FULL;
        all.tape += (char) sign;
        return all.tape.length();
    }

    int law() {
        if (all.laws == 5) return FULL;
        String text = all.tape;
        all.tape = "";
        int fault = fault(text);
        if (fault >= 0) return -10 - fault;
        all.law = text;
        return all.laws++;
    }

    int valley(int wide, int high) {
        if (wide < 2 || wide > 8 || high < 2 || high > 8) return BAD;
        if (!all.people.isEmpty()) return STATE;
        int were = all.wide * all.high;
        all.wide = wide;
        all.high = high;
        all.walls.clear();
        return were;
    }

    int wall(int cell, boolean is) {
        if (!isCell(cell)) return NONE;
        if (taken(cell)) return STATE;
        boolean had = is ? !all.walls.add(cell) : all.walls.remove(cell);
        return had ? 1 : 0;
    }

    int person(int kind, int v, int home, int purse) {
        if (kind < 0 || kind > 6 || !isCell(home)) return NONE;
        if (v < 0 || v > 9 || purse < 0 || purse > 999) return BAD;
        if (all.walls.contains(home)) return STATE;
        if (all.people.size() == 4) return FULL;
        Being b = new Being();
        b.kind = kind;
        b.v = v;
        b.home = home;
        b.at = home;
        b.purse = purse;
        all.people.add(b);
        return all.people.size() - 1;
    }

    int of(int person, int what) {
        if (!isOne(person)) return NONE;
        Being b = all.people.get(person);
        if (what == 0) return b.kind;
        if (what == 1) return b.v;
        if (what == 2) return b.home;
        if (what == 3) return b.at;
        if (what == 4) return b.purse;
        if (what == 5) return b.debts.size();
        if (what == 6) return aim(all, person);
        if (what == 7) return steps(all, person);
        if (what == 8) return earns(all, person);
        for (int k = 0; k < b.debts.size(); k++) {
            if (what == 10 + k) return b.debts.get(k).to();
            if (what == 20 + k) return b.debts.get(k).sum();
        }
        return NONE;
    }

    int owe(int one, int other, int sum) {
        if (!isOne(one) || !isOne(other)) return NONE;
        if (one == other || sum < 0 || sum > 99) return BAD;
        List<Debt> debts = all.people.get(one).debts;
        boolean found = false;
        for (int k = 0; k < debts.size(); k++) {
            if (debts.get(k).to() == other) {
                found = true;
                debts.set(k, new Debt(other, sum));
            }
        }
        if (!found) debts.add(new Debt(other, sum));
        debts.removeIf(d -> d.sum() == 0);
        return debts.size();
    }

    int row(int person, int k, int way) {
        if (!isOne(person) || k < 0 || k > 3) return NONE;
        if (way < 0 || way > 4) return BAD;
        Being b = all.people.get(person);
        if (b.kind != 6) return STATE;
        int was = b.row[k];
        b.row[k] = way;
        return was;
    }

    int now() {
        return all.day;
    }

    int day() {
        if (all.day == 999) return STATE;
        all = next(all);
        return all.day;
    }

    int on(int person, int n, int what) {
        if (!isOne(person) || what < 0 || what > 2) return NONE;
        if (n < 0 || n > 60) return BAD;
        Being b = after(all, n).people.get(person);
        if (what == 0) return b.at;
        if (what == 1) return b.purse;
        return b.debts.stream().mapToInt(Debt::sum).sum();
    }

    int meet(int one, int other) {
        if (!isOne(one) || !isOne(other)) return NONE;
        if (one == other) return BAD;
        return first(all, 0, 60, a -> a.people.get(one).at == a.people.get(other).at);
    }

    private int freeIn(All a, int person) {
        return first(a, 0, 60, b -> b.people.get(person).debts.isEmpty());
    }

    int free(int person) {
        return isOne(person) ? freeIn(all, person) : NONE;
    }

    int spot() {
        return first(all, 0, 60, a -> a.people.stream().mapToInt(b -> b.at).distinct().count() <= 1);
    }

    private static boolean same(All a, All b, int what) {
        for (int i = 0; i < a.people.size(); i++) {
            Being x = a.people.get(i);
            Being y = b.people.get(i);
            if (x.at != y.at) return false;
            if (what == 0 && (x.purse != y.purse || !x.debts.equals(y.debts))) return false;
        }
        return true;
    }

    int again(int what) {
        if (what != 0 && what != 1) return NONE;
        All now = all;
        return first(all, 1, 60, a -> same(a, now, what));
    }

    private List<Integer> notOwed(int person) {
        List<Integer> others = new ArrayList<>();
        for (int j = 0; j < all.people.size(); j++) {
            if (j != person && !all.people.get(person).owes(j)) others.add(j);
        }
        return others;
    }

    private All owing(int person, int other) {
        All a = all.copy();
        a.people.get(person).debts.add(0, new Debt(other, 99));
        return a;
    }

    int whom(int person, int cell, int what) {
        if (!isOne(person) || !isCell(cell) || what < 0 || what > 1) return NONE;
        int who = -5;
        int when = 1000;
        for (int j : notOwed(person)) {
            int n = first(owing(person, j), 0, 60, a -> a.people.get(person).at == cell);
            if (n >= 0 && n < when) {
                when = n;
                who = j;
            }
        }
        return who < 0 ? -5 : what == 0 ? who : when;
    }

    private static void orders(List<Debt> left, List<Debt> taken, List<List<Debt>> out) {
        if (left.isEmpty()) out.add(taken);
        for (Debt d : left) {
            List<Debt> rest = new ArrayList<>(left);
            rest.remove(d);
            List<Debt> more = new ArrayList<>(taken);
            more.add(d);
            orders(rest, more, out);
        }
    }

    int order(int person, int k) {
        if (!isOne(person) || k < -1 || k > 3) return NONE;
        List<List<Debt>> out = new ArrayList<>();
        orders(all.people.get(person).debts, new ArrayList<>(), out);
        out.sort((p, q) -> {
            for (int i = 0; i < p.size(); i++) {
                if (p.get(i).to() != q.get(i).to()) return Integer.compare(p.get(i).to(), q.get(i).to());
            }
            return 0;
        });
        int when = 1000;
        List<Debt> best = null;
        for (List<Debt> o : out) {
            All a = all.copy();
            a.people.get(person).debts = new ArrayList<>(o);
            int n = freeIn(a, person);
            if (n >= 0 && n < when) {
                when = n;
                best = o;
            }
        }
        if (best == null) return -5;
        if (k == -1) return when;
        return k < best.size() ? best.get(k).to() : -5;
    }

    int late(int person, int cell) {
        if (!isOne(person) || !isCell(cell)) return -1002;
        if (all.walls.contains(cell) || taken(cell)) return -1003;
        All a = all.copy();
        a.walls.add(cell);
        int with = freeIn(a, person);
        int without = freeIn(all, person);
        return with < 0 || without < 0 ? -1001 : with - without;
    }

    int sit(int person, int n, int what) {
        if (!isOne(person) || what < 0 || what > 1) return NONE;
        if (n < 0 || n > 30) return BAD;
        int where = -1;
        int least = 1000000;
        for (int c = 0; c < all.wide * all.high; c++) {
            if (all.walls.contains(c)) continue;
            All a = all.copy();
            a.people.get(person).at = c;
            int sum = 0;
            for (Being b : after(a, n).people) {
                for (Debt d : b.debts) if (d.to() == person) sum += d.sum();
            }
            if (sum < least) {
                least = sum;
                where = c;
            }
        }
        return what == 0 ? where : least;
    }

    int track(int cell) {
        if (cell == -1) {
            all.tracks.clear();
            return 0;
        }
        if (!isCell(cell)) return NONE;
        if (all.tracks.size() == 6) return FULL;
        all.tracks.add(cell);
        return all.tracks.size();
    }

    int owed(int person) {
        if (!isOne(person)) return NONE;
        int bits = 0;
        for (int j = 0; j < all.people.size(); j++) {
            if (j == person) continue;
            All a = all.copy();
            a.people.get(person).debts = new ArrayList<>(List.of(new Debt(j, 99)));
            boolean so = true;
            for (int k = 0; k < all.tracks.size(); k++) {
                so &= after(a, k + 1).people.get(person).at == all.tracks.get(k);
            }
            if (so) bits += 1 << j;
        }
        return bits;
    }

    private static long lowest(long above, long below, int part) {
        long g = java.math.BigInteger.valueOf(above).gcd(java.math.BigInteger.valueOf(below)).longValue();
        return (part == 0 ? above : below) / g;
    }

    long odds(int one, int other, int n, int part) {
        if (!isOne(one) || !isOne(other) || one == other || n < 0 || n > 60 || part < 0 || part > 1) return NO;
        List<Integer> could = notOwed(one);
        if (could.isEmpty()) return NO;
        int met = 0;
        for (int j : could) {
            if (first(owing(one, j), 0, n, a -> a.people.get(one).at == a.people.get(other).at) >= 0) met++;
        }
        return lowest(met, could.size(), part);
    }

    long mean(int n, int part) {
        if (n < 0 || n > 60 || part < 0 || part > 1 || all.people.isEmpty()) return NO;
        long sum = after(all, n).people.stream().mapToInt(b -> b.purse).sum();
        return lowest(sum, all.people.size(), part);
    }

    int book(int person, int n, int cell) {
        if (person == -1) {
            all.book.clear();
            return 0;
        }
        if (!isOne(person) || !isCell(cell)) return NONE;
        if (n < 0 || n > 60) return BAD;
        if (all.book.size() == 8) return FULL;
        all.book.add(new int[] {person, n, cell});
        return all.book.size();
    }

    int looked() {
        for (int k = 0; k < all.book.size(); k++) {
            int[] r = all.book.get(k);
            if (after(all, r[1]).people.get(r[0]).at != r[2]) return k;
        }
        return -5;
    }

    // Bodies: which KIND has one, by act and kind; 0 is none.
    private static final int[][] BODY = {
        {1, 11, 0, 0, 0, 51, 0},
        {2, 0, 21, 0, 0, 0, 61},
        {3, 0, 0, 31, 41, 0, 0}};
    private static final int[] ABOVE = {-1, 0, 0, 0, 1, 2, 3};

    private int run(int i, int act, int fromKind, int x) {
        Being b = all.people.get(i);
        int k = fromKind;
        while (BODY[act][k] == 0) k = ABOVE[k];
        int body = BODY[act][k];
        bodies.add(body);
        switch (body) {
            case 1: return x + i;
            case 2: return run(i, 0, b.kind, x) - b.v;
            case 3: return run(i, 1, b.kind, x) * 2;
            case 11: return run(i, 0, ABOVE[k], x * 3);
            case 21: return -run(i, 1, ABOVE[k], x);
            case 31: return run(i, 2, ABOVE[k], x) ^ 7;
            case 41: {
                int left = run(i, 2, ABOVE[k], x - 1);
                return left + run(i, 0, b.kind, 2);
            }
            case 51: return run(i, 0, ABOVE[k], x) ^ i;
            default: return run(i, 1, ABOVE[k], x) + b.v;
        }
    }

    int act(int person, int act, int x) {
        bodies.clear();
        if (!isOne(person) || act < 0 || act > 2) return 0;
        return run(person, act, all.people.get(person).kind, x);
    }

    int trace(int i) {
        return i >= 0 && i < Math.min(20, bodies.size()) ? bodies.get(i) : NONE;
    }

    int as(int person, int k) {
        if (!isOne(person) || k < 0 || k > 6) return NONE;
        for (int kind = all.people.get(person).kind; kind >= 0; kind = ABOVE[kind]) {
            if (kind == k) return all.people.get(person).v;
        }
        return -6;
    }

    int image() {
        image = all.copy();
        return all.people.size();
    }

    int undo() {
        if (image == null) return STATE;
        all = image.copy();
        return all.people.size();
    }

    int count(int what) {
        switch (what) {
            case 0: return all.people.size();
            case 1: return all.laws;
            case 2: return all.tracks.size();
            case 3: return all.book.size();
            case 4: return all.tape.length();
            case 5: return bodies.size();
            default: return NONE;
        }
    }
}
