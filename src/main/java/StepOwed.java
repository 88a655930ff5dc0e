/**
 * A step toward whom one owes: people in a valley who each morning go a step
 * toward the one they owe first, and pay what they can when they stand there.
 * What each call answers is told in the document, promise by promise.
 */
public final class StepOwed {
    public static final int NONE = -1, BAD = -2, STATE = -3, FULL = -4;
    /** There is no such number. */
    public static final long NO = Long.MIN_VALUE;

    private static final int NEVER = -5;
    private static final int ANOTHER_KIND = -6;
    private static final int NO_FAULT = -1;
    private static final int FAULT_BASE = -10;
    private static final int LATE_NEVER = -1001, LATE_NONE = -1002, LATE_STATE = -1003;

    private static final int MOST_SIGNS = 100;
    private static final int MOST_CLAUSES = 10;
    private static final int MOST_LAWS = 5;
    private static final int MOST_OPEN = 5;
    private static final int MOST_PEOPLE = 4;
    private static final int MOST_DEBTS = MOST_PEOPLE - 1;
    private static final int LEAST_SIDE = 2, GREATEST_SIDE = 8;
    private static final int MOST_CELLS = GREATEST_SIDE * GREATEST_SIDE;
    private static final int MOST_TRACKS = 6;
    private static final int MOST_BOOK = 8;
    private static final int MOST_TRACE = 20;
    private static final int GREATEST_PURSE = 999;
    private static final int GREATEST_SUM = 99;
    private static final int GREATEST_V = 9;
    private static final int GREATEST_KIND = 6;
    private static final int LAST_DAY = 999;
    private static final int FARTHEST = 60;
    private static final int FARTHEST_SIT = 30;
    private static final int WAYS = 4;
    private static final int MOST_STEPS = 2;

    /** The questions that firstDay can ask of a day. */
    private static final int ASK_MEET = 0, ASK_FREE = 1, ASK_SPOT = 2, ASK_AT = 3;

    /** All orders of three, three places each, the first as a row ahead. */
    private static final int[] ORDERS = {0, 1, 2, 0, 2, 1, 1, 0, 2, 1, 2, 0, 2, 0, 1, 2, 1, 0};
    private static final int ORDER_COUNT = 6;

    private final Rows tape = new Rows(MOST_SIGNS);
    private final Rows tracks = new Rows(MOST_TRACKS);
    private final Rows book = new Rows(MOST_BOOK);
    private final Rows trace = new Rows(MOST_TRACE);
    /** A text is read into this one, so that a FAULT leaves the one that holds. */
    private final Law draft = new Law();
    private final World world = new World();
    /** Where days are tried that do not go. */
    private final World trial = new World();
    private int laws;

    private final Rows imageTape = new Rows(MOST_SIGNS);
    private final Rows imageTracks = new Rows(MOST_TRACKS);
    private final Rows imageBook = new Rows(MOST_BOOK);
    private final World imageWorld = new World();
    private int imageLaws;
    private boolean hasImage;

    public StepOwed() {
    }

    // ---- laws, the valley, people

    public int feed(int sign) {
        if (sign < 0 || sign > 127) return BAD;
        if (tape.isFull()) return FULL;
        tape.add(sign);
        return tape.size;
    }

    public int law() {
        if (laws >= MOST_LAWS) return FULL;
        int fault = draft.read(tape);
        tape.clear();
        if (fault != NO_FAULT) return FAULT_BASE - fault;
        world.law.copyFrom(draft);
        laws++;
        return laws - 1;
    }

    public int valley(int wide, int high) {
        if (!isSide(wide) || !isSide(high)) return BAD;
        if (world.count > 0) return STATE;
        int cells = world.cells();
        world.layOut(wide, high);
        return cells;
    }

    public int wall(int cell, boolean is) {
        if (!world.isCell(cell)) return NONE;
        if (world.isTaken(cell)) return STATE;
        boolean had = world.hasWall(cell);
        world.setWall(cell, is);
        return had ? 1 : 0;
    }

    public int person(int kind, int v, int home, int purse) {
        if (!isKind(kind) || !world.isCell(home)) return NONE;
        if (v < 0 || v > GREATEST_V || purse < 0 || purse > GREATEST_PURSE) return BAD;
        if (world.hasWall(home)) return STATE;
        if (world.count >= MOST_PEOPLE) return FULL;
        return world.settle(kindOf(kind), v, home, purse);
    }

    public int of(int person, int what) {
        Person one = world.personAt(person);
        if (one == null) return NONE;
        switch (what) {
            case 0: return one.kind.number;
            case 1: return one.v;
            case 2: return one.home;
            case 3: return one.at;
            case 4: return one.purse;
            case 5: return one.debts;
            case 6: return world.aimOf(one);
            case 7: return world.stepsOf(one);
            case 8: return world.earnsOf(one);
            default: return what >= 20 ? one.sumAt(what - 20) : one.creditorAt(what - 10);
        }
    }

    public int owe(int one, int other, int sum) {
        Person debtor = world.personAt(one);
        if (debtor == null || !world.isPerson(other)) return NONE;
        if (one == other || sum < 0 || sum > GREATEST_SUM) return BAD;
        debtor.oweBehind(other, sum);
        return debtor.debts;
    }

    public int row(int person, int k, int way) {
        Person one = world.personAt(person);
        if (one == null || k < 0 || k >= WAYS) return NONE;
        if (way < 0 || way > 4) return BAD;
        if (!(one.kind instanceof Told)) return STATE;
        int was = one.ways[k];
        one.ways[k] = way;
        return was;
    }

    public int now() {
        return world.today;
    }

    public int day() {
        if (world.today >= LAST_DAY) return STATE;
        world.goOneDay();
        return world.today;
    }

    // ---- days to come

    public int on(int person, int n, int what) {
        if (!world.isPerson(person) || what < 0 || what > 2) return NONE;
        if (!isAhead(n)) return BAD;
        trial.copyFrom(world);
        trial.goDays(n);
        Person one = trial.personAt(person);
        if (one == null) return NONE;
        return what == 0 ? one.at : what == 1 ? one.purse : one.owesTogether();
    }

    public int meet(int one, int other) {
        if (!world.isPerson(one) || !world.isPerson(other)) return NONE;
        if (one == other) return BAD;
        trial.copyFrom(world);
        return firstDay(ASK_MEET, one, other);
    }

    public int free(int person) {
        if (!world.isPerson(person)) return NONE;
        trial.copyFrom(world);
        return firstDay(ASK_FREE, person, 0);
    }

    public int spot() {
        trial.copyFrom(world);
        return firstDay(ASK_SPOT, 0, 0);
    }

    public int again(int what) {
        if (what < 0 || what > 1) return NONE;
        trial.copyFrom(world);
        for (int n = 1; n <= FARTHEST; n++) {
            trial.goOneDay();
            if (trial.isAs(world, what == 0)) return n;
        }
        return NEVER;
    }

    public int whom(int person, int cell, int what) {
        if (!world.isPerson(person) || !world.isCell(cell) || what < 0 || what > 1) return NONE;
        int who = NEVER;
        int when = NEVER;
        for (int other = 0; other < world.count; other++) {
            if (!tryOwing(person, other)) continue;
            int n = firstDay(ASK_AT, person, cell);
            if (isSooner(n, when)) {
                who = other;
                when = n;
            }
        }
        return what == 0 ? who : when;
    }

    public int order(int person, int k) {
        Person one = world.personAt(person);
        if (one == null || k < -1 || k > 3) return NONE;
        int best = NEVER;
        int when = NEVER;
        for (int order = 0; order < ORDER_COUNT; order++) {
            if (!tryOrder(one, order)) continue;
            int n = firstDay(ASK_FREE, person, 0);
            if (isSooner(n, when)) {
                best = order;
                when = n;
            }
        }
        if (k == -1) return when;
        return best == NEVER || k >= one.debts ? NEVER : one.creditorAt(one.placeInOrder(best, k));
    }

    public int late(int person, int cell) {
        if (!world.isPerson(person) || !world.isCell(cell)) return LATE_NONE;
        if (world.hasWall(cell) || world.isTaken(cell)) return LATE_STATE;
        trial.copyFrom(world);
        int without = firstDay(ASK_FREE, person, 0);
        trial.copyFrom(world);
        trial.setWall(cell, true);
        int with = firstDay(ASK_FREE, person, 0);
        return without == NEVER || with == NEVER ? LATE_NEVER : with - without;
    }

    public int sit(int person, int n, int what) {
        if (!world.isPerson(person) || what < 0 || what > 1) return NONE;
        if (n < 0 || n > FARTHEST_SIT) return BAD;
        int where = NEVER;
        int least = 0;
        for (int cell = 0; cell < world.cells(); cell++) {
            if (world.hasWall(cell)) continue;
            int sum = owedWhenAt(person, cell, n);
            if (where == NEVER || sum < least) {
                where = cell;
                least = sum;
            }
        }
        return what == 0 ? where : least;
    }

    // ---- tracks, odds, books

    public int track(int cell) {
        if (cell == -1) {
            tracks.clear();
            return 0;
        }
        if (!world.isCell(cell)) return NONE;
        if (tracks.isFull()) return FULL;
        tracks.add(cell);
        return tracks.size;
    }

    public int owed(int person) {
        if (!world.isPerson(person)) return NONE;
        int bits = 0;
        for (int other = 0; other < world.count; other++) {
            if (other != person && goesByTracks(person, other)) bits |= 1 << other;
        }
        return bits;
    }

    public long odds(int one, int other, int n, int part) {
        if (!world.isPerson(one) || !world.isPerson(other) || one == other) return NO;
        if (!isAhead(n) || part < 0 || part > 1) return NO;
        int all = 0;
        int met = 0;
        for (int creditor = 0; creditor < world.count; creditor++) {
            if (!tryOwing(one, creditor)) continue;
            int day = firstDay(ASK_MEET, one, other);
            all++;
            if (day != NEVER && day <= n) met++;
        }
        return all == 0 ? NO : partOf(met, all, part);
    }

    public long mean(int n, int part) {
        if (!isAhead(n) || part < 0 || part > 1 || world.count == 0) return NO;
        trial.copyFrom(world);
        trial.goDays(n);
        return partOf(trial.pursesTogether(), trial.count, part);
    }

    public int book(int person, int n, int cell) {
        if (person == -1) {
            book.clear();
            return 0;
        }
        if (!world.isPerson(person) || !world.isCell(cell)) return NONE;
        if (!isAhead(n)) return BAD;
        if (book.isFull()) return FULL;
        // Each of the three is below 64, so a row fits into one number.
        book.add(person << 12 | n << 6 | cell);
        return book.size;
    }

    public int looked() {
        for (int k = 0; k < book.size; k++) {
            int told = book.itemAt(k);
            trial.copyFrom(world);
            trial.goDays(told >> 6 & 63);
            Person one = trial.personAt(told >> 12);
            if (one == null || one.at != (told & 63)) return k;
        }
        return NEVER;
    }

    // ---- acts, the image

    public int act(int person, int act, int x) {
        trace.clear();
        Person one = world.personAt(person);
        if (one == null) return 0;
        switch (act) {
            case 0: return one.kind.goes(one, x, trace);
            case 1: return one.kind.pays(one, x, trace);
            case 2: return one.kind.tells(one, x, trace);
            default: return 0;
        }
    }

    public int trace(int i) {
        return i >= 0 && i < trace.size ? trace.itemAt(i) : NONE;
    }

    public int as(int person, int k) {
        Person one = world.personAt(person);
        if (one == null || !isKind(k)) return NONE;
        return isUnder(one.kind, k) ? one.v : ANOTHER_KIND;
    }

    public int image() {
        imageTape.copyFrom(tape);
        imageTracks.copyFrom(tracks);
        imageBook.copyFrom(book);
        imageWorld.copyFrom(world);
        imageLaws = laws;
        hasImage = true;
        return world.count;
    }

    public int undo() {
        if (!hasImage) return STATE;
        tape.copyFrom(imageTape);
        tracks.copyFrom(imageTracks);
        book.copyFrom(imageBook);
        world.copyFrom(imageWorld);
        laws = imageLaws;
        return world.count;
    }

    public int count(int what) {
        switch (what) {
            case 0: return world.count;
            case 1: return laws;
            case 2: return tracks.size;
            case 3: return book.size;
            case 4: return tape.size;
            case 5: return trace.told;
            default: return NONE;
        }
    }

    // ---- what the calls above share

    private static boolean isKind(int kind) {
        return kind >= 0 && kind <= GREATEST_KIND;
    }

    private static boolean isSide(int cells) {
        return cells >= LEAST_SIDE && cells <= GREATEST_SIDE;
    }

    private static boolean isAhead(int n) {
        return n >= 0 && n <= FARTHEST;
    }

    private static boolean isSooner(int n, int when) {
        return n != NEVER && (when == NEVER || n < when);
    }

    private static Walker kindOf(int kind) {
        switch (kind) {
            case 1: return new Swift(kind);
            case 2: return new Shy(kind);
            case 3: return new Homing(kind);
            case 4: return new Rich(kind);
            case 5: return new Resting(kind);
            case 6: return new Told(kind);
            default: return new Walker(kind);
        }
    }

    private static boolean isUnder(Walker walker, int kind) {
        switch (kind) {
            case 1: return walker instanceof Swift;
            case 2: return walker instanceof Shy;
            case 3: return walker instanceof Homing;
            case 4: return walker instanceof Rich;
            case 5: return walker instanceof Resting;
            case 6: return walker instanceof Told;
            default: return true;
        }
    }

    /** Lets the trial's days go until the answer is yes: after how many that is, or NEVER. */
    private int firstDay(int question, int a, int b) {
        for (int n = 0; n <= FARTHEST; n++) {
            if (isSo(question, a, b)) return n;
            trial.goOneDay();
        }
        return NEVER;
    }

    private boolean isSo(int question, int a, int b) {
        if (question == ASK_SPOT) return trial.areAllAtOneCell();
        Person one = trial.personAt(a);
        if (one == null) return false;
        if (question == ASK_FREE) return one.debts == 0;
        if (question == ASK_AT) return one.at == b;
        Person other = trial.personAt(b);
        return other != null && one.at == other.at;
    }

    /** Makes the trial as if one owed the other 99 first; false, if it may not be thought so. */
    private boolean tryOwing(int one, int other) {
        Person debtor = world.personAt(one);
        if (debtor == null || one == other || debtor.placeOfDebt(other) >= 0) return false;
        trial.copyFrom(world);
        Person tried = trial.personAt(one);
        if (tried == null) return false;
        tried.oweAhead(other, GREATEST_SUM);
        return true;
    }

    /** Makes the trial as if the debts stood in that order; false, if there are not as many. */
    private boolean tryOrder(Person one, int order) {
        trial.copyFrom(world);
        Person tried = trial.personAt(one.number);
        return tried != null && tried.takeInOrder(one, order);
    }

    private int owedWhenAt(int person, int cell, int n) {
        trial.copyFrom(world);
        Person one = trial.personAt(person);
        if (one == null) return 0;
        one.at = cell;
        trial.goDays(n);
        return trial.owedTo(person);
    }

    private boolean goesByTracks(int person, int creditor) {
        trial.copyFrom(world);
        Person one = trial.personAt(person);
        if (one == null) return false;
        one.debts = 0;
        one.oweAhead(creditor, GREATEST_SUM);
        for (int k = 0; k < tracks.size; k++) {
            trial.goOneDay();
            if (one.at != tracks.itemAt(k)) return false;
        }
        return true;
    }

    /** Of above / below in lowest terms what stands above (part 0) or below the line. */
    private static long partOf(int above, int below, int part) {
        for (int divisor = below; divisor > 1; divisor--) {
            if (above % divisor == 0 && below % divisor == 0) {
                return part == 0 ? above / divisor : below / divisor;
            }
        }
        return part == 0 ? above : below;
    }

    /** Numbers in the order in which they came, up to a limit. */
    static final class Rows {
        private final int[] items;
        int size;
        /** All that came, those beyond the limit, too. */
        int told;

        Rows(int most) {
            items = new int[Math.max(most, 0)];
        }

        boolean isFull() {
            return size >= items.length;
        }

        void add(int item) {
            told++;
            if (size < 0 || size >= items.length) return;
            items[size] = item;
            size++;
        }

        int itemAt(int i) {
            return i >= 0 && i < size && i < items.length ? items[i] : NONE;
        }

        void clear() {
            size = 0;
            told = 0;
        }

        void copyFrom(Rows other) {
            clear();
            for (int k = 0; k < other.size; k++) {
                add(other.itemAt(k));
            }
        }
    }

    /** A LAW: its clauses, and what they say of one of the people. */
    static final class Law {
        private static final int EARN = 0, REST = 1, COME = 2;
        /** Signs of the code below 0; one from 0 on is a test. */
        private static final int NOT = -1, AND = -2, OR = -3;
        private static final String FACTS = "pkxydo", RELATIONS = "<=>";

        private int clauses;
        private final int[] words = new int[MOST_CLAUSES];
        private final int[] amounts = new int[MOST_CLAUSES];
        private final int[] starts = new int[MOST_CLAUSES];
        private final int[] ends = new int[MOST_CLAUSES];
        /** All E, one behind the other, what is joined ahead of what joins it. */
        private final int[] code = new int[MOST_SIGNS];
        private int size;

        private final int[] text = new int[MOST_SIGNS];
        private int length;
        private int at;
        private int number;

        void copyFrom(Law other) {
            clauses = other.clauses;
            System.arraycopy(other.words, 0, words, 0, MOST_CLAUSES);
            System.arraycopy(other.amounts, 0, amounts, 0, MOST_CLAUSES);
            System.arraycopy(other.starts, 0, starts, 0, MOST_CLAUSES);
            System.arraycopy(other.ends, 0, ends, 0, MOST_CLAUSES);
            System.arraycopy(other.code, 0, code, 0, MOST_SIGNS);
        }

        // Every reader below stops at the first sign that cannot go on, so
        // that after a refusal the place reached is the FAULT.

        /** Becomes what the tape says: NO_FAULT, or the place of the fault. */
        int read(Rows tape) {
            length = Math.min(tape.size, MOST_SIGNS);
            for (int k = 0; k < length; k++) {
                text[k] = tape.itemAt(k);
            }
            clauses = 0;
            size = 0;
            at = 0;
            boolean good = readClause();
            for (int k = 1; k < MOST_CLAUSES && good && take(';'); k++) {
                good = readClause();
            }
            return good && at == length ? NO_FAULT : at;
        }

        private boolean readClause() {
            int start = size;
            switch (sign()) {
                case 'e':
                    if (!takeWord("earn ") || !readNumber()) return false;
                    int amount = number;
                    return take(' ') && readAny(0) && keepClause(EARN, amount, start);
                case 'r':
                    return takeWord("rest ") && readAny(0) && keepClause(REST, 0, start);
                case 'c':
                    return takeWord("come ") && readNumber() && keepClause(COME, number, start);
                default:
                    return false;
            }
        }

        private boolean keepClause(int word, int amount, int start) {
            if (clauses < 0 || clauses >= MOST_CLAUSES) return false;
            words[clauses] = word;
            amounts[clauses] = amount;
            starts[clauses] = start;
            ends[clauses] = size;
            clauses++;
            return true;
        }

        /** An E; open is how many of ! and ( are open ahead of it. */
        private boolean readAny(int open) {
            boolean good = readOne(open);
            // What stands behind | may still be joined by &: so | waits.
            boolean orWaits = false;
            for (int k = 0; k < MOST_SIGNS && good; k++) {
                if (take('&')) {
                    good = readOne(open);
                    write(AND);
                } else if (take('|')) {
                    if (orWaits) write(OR);
                    orWaits = true;
                    good = readOne(open);
                } else {
                    break;
                }
            }
            if (orWaits) write(OR);
            return good;
        }

        private boolean readOne(int open) {
            if (open < MOST_OPEN && take('!')) {
                boolean good = readOne(open + 1);
                write(NOT);
                return good;
            }
            if (open < MOST_OPEN && take('(')) return readAny(open + 1) && take(')');
            return readTest();
        }

        private boolean readTest() {
            int fact = FACTS.indexOf((char) sign());
            if (fact < 0) return false;
            at++;
            int relation = RELATIONS.indexOf((char) sign());
            if (relation < 0) return false;
            at++;
            if (!readNumber()) return false;
            write((fact * 3 + relation) * 100 + number);
            return true;
        }

        private boolean readNumber() {
            if (!isDigit(sign())) return false;
            number = sign() - '0';
            at++;
            if (number > 0 && isDigit(sign())) {
                number = 10 * number + sign() - '0';
                at++;
            }
            return true;
        }

        private static boolean isDigit(int sign) {
            return sign >= '0' && sign <= '9';
        }

        /** The sign that is next, or -1 behind the last one. */
        private int sign() {
            return at >= 0 && at < length && at < MOST_SIGNS ? text[at] : -1;
        }

        private boolean take(char wanted) {
            if (sign() != wanted) return false;
            at++;
            return true;
        }

        private boolean takeWord(String word) {
            for (int k = 0; k < word.length(); k++) {
                if (!take(word.charAt(k))) return false;
            }
            return true;
        }

        private void write(int sign) {
            // No more can come than the tape has signs; then nothing is lost here.
            if (size < 0 || size >= MOST_SIGNS) return;
            code[size] = sign;
            size++;
        }

        int earns(int[] facts) {
            int sum = 0;
            for (int k = 0; k < clauses && k < MOST_CLAUSES; k++) {
                if (words[k] == EARN && holds(k, facts)) sum += amounts[k];
            }
            return sum;
        }

        boolean rests(int[] facts) {
            for (int k = 0; k < clauses && k < MOST_CLAUSES; k++) {
                if (words[k] == REST && holds(k, facts)) return true;
            }
            return false;
        }

        boolean comesOdd() {
            int come = 0;
            for (int k = 0; k < clauses && k < MOST_CLAUSES; k++) {
                if (words[k] == COME) come = amounts[k];
            }
            return come % 2 == 1;
        }

        private boolean holds(int clause, int[] facts) {
            // With 5 open at most, 13 bits are pending at most: one int is stack enough.
            int stack = 0;
            for (int k = Math.max(starts[clause], 0); k < ends[clause] && k < MOST_SIGNS; k++) {
                int sign = code[k];
                int top = stack & 1;
                if (sign == NOT) {
                    stack ^= 1;
                } else if (sign == AND) {
                    stack = stack >> 1 & (~1 | top);
                } else if (sign == OR) {
                    stack = stack >> 1 | top;
                } else {
                    stack = stack << 1 | (passes(sign, facts) ? 1 : 0);
                }
            }
            return (stack & 1) == 1;
        }

        private static boolean passes(int test, int[] facts) {
            int which = test / 300;
            if (which < 0 || which >= facts.length) return false;
            int fact = facts[which];
            int number = test % 100;
            switch (test / 100 % 3) {
                case 0: return fact < number;
                case 1: return fact == number;
                default: return fact > number;
            }
        }
    }

    /** One of the people, or an empty place for one. */
    static final class Person {
        final int number;
        Walker kind = new Walker(0);
        int v;
        int home;
        int at;
        int purse;
        int debts;
        final int[] ways = new int[WAYS];
        private final int[] creditors = new int[MOST_DEBTS];
        private final int[] sums = new int[MOST_DEBTS];

        /** What a day makes of this one before it has gone. */
        int next;
        int earned;
        boolean stays;

        Person(int number) {
            this.number = number;
        }

        void settle(Walker kind, int v, int home, int purse) {
            this.kind = kind;
            this.v = v;
            this.home = home;
            this.at = home;
            this.purse = purse;
            debts = 0;
            for (int k = 0; k < WAYS; k++) {
                ways[k] = 0;
            }
        }

        void copyFrom(Person other) {
            kind = other.kind;
            v = other.v;
            home = other.home;
            at = other.at;
            purse = other.purse;
            debts = other.debts;
            System.arraycopy(other.ways, 0, ways, 0, WAYS);
            System.arraycopy(other.creditors, 0, creditors, 0, MOST_DEBTS);
            System.arraycopy(other.sums, 0, sums, 0, MOST_DEBTS);
        }

        private boolean isDebt(int k) {
            return k >= 0 && k < debts && k < MOST_DEBTS;
        }

        int creditorAt(int k) {
            return isDebt(k) ? creditors[k] : NONE;
        }

        int sumAt(int k) {
            return isDebt(k) ? sums[k] : NONE;
        }

        /** The place in the row of what is owed to the other, or -1. */
        int placeOfDebt(int other) {
            for (int k = 0; k < MOST_DEBTS && isDebt(k); k++) {
                if (creditors[k] == other) return k;
            }
            return -1;
        }

        int owesTogether() {
            int together = 0;
            for (int k = 0; k < MOST_DEBTS && isDebt(k); k++) {
                together += sums[k];
            }
            return together;
        }

        void oweBehind(int other, int sum) {
            int place = placeOfDebt(other);
            if (place < 0 && sum > 0) {
                insertDebt(debts, other, sum);
            } else if (sum > 0) {
                setSum(place, sum);
            } else if (place >= 0) {
                dropDebt(place);
            }
        }

        void oweAhead(int other, int sum) {
            insertDebt(0, other, sum);
        }

        private void insertDebt(int place, int other, int sum) {
            if (debts >= MOST_DEBTS || place < 0 || place > debts) return;
            for (int k = debts; k > place; k--) {
                creditors[k] = creditors[k - 1];
                sums[k] = sums[k - 1];
            }
            creditors[place] = other;
            sums[place] = sum;
            debts++;
        }

        private void setSum(int place, int sum) {
            if (isDebt(place)) sums[place] = sum;
        }

        private void dropDebt(int place) {
            if (!isDebt(place)) return;
            for (int k = place + 1; k < MOST_DEBTS && isDebt(k); k++) {
                creditors[k - 1] = creditors[k];
                sums[k - 1] = sums[k];
            }
            debts--;
        }

        /** Pays the first creditor what it can: how much. */
        int payFirst() {
            if (!isDebt(0)) return 0;
            int paid = Math.min(purse, sums[0]);
            purse -= paid;
            sums[0] -= paid;
            if (sums[0] == 0) dropDebt(0);
            return paid;
        }

        void take(int money) {
            purse = Math.min(purse + money, GREATEST_PURSE);
        }

        boolean owesAs(Person other) {
            if (debts != other.debts) return false;
            for (int k = 0; k < MOST_DEBTS && isDebt(k); k++) {
                if (creditors[k] != other.creditors[k] || sums[k] != other.sums[k]) return false;
            }
            return true;
        }

        /** Where in this one's row the debt stands that is k-th in that order, or -1. */
        int placeInOrder(int order, int k) {
            int i = order * MOST_DEBTS + k;
            return k >= 0 && k < MOST_DEBTS && i >= 0 && i < ORDERS.length ? placeOfRank(ORDERS[i]) : -1;
        }

        /** The place of the debt to whom only so many are ahead by their numbers, or -1. */
        private int placeOfRank(int rank) {
            for (int k = 0; k < MOST_DEBTS && isDebt(k); k++) {
                int smaller = 0;
                for (int other = 0; other < MOST_DEBTS && isDebt(other); other++) {
                    if (creditors[other] < creditors[k]) smaller++;
                }
                if (smaller == rank) return k;
            }
            return -1;
        }

        /** Owes what the other owes, in that order; false, if the order is one of more debts. */
        boolean takeInOrder(Person other, int order) {
            debts = 0;
            for (int k = 0; k < other.debts; k++) {
                int place = other.placeInOrder(order, k);
                if (place < 0) return false;
                insertDebt(k, other.creditorAt(place), other.sumAt(place));
            }
            return true;
        }
    }

    /** The valley, the people in it, and how its days go. */
    static final class World {
        final Law law = new Law();
        private int wide = 6;
        private int high = 6;
        private final boolean[] walls = new boolean[MOST_CELLS];
        private final Person[] people = new Person[MOST_PEOPLE];
        int count;
        int today;
        private final int[] facts = new int[6];

        World() {
            for (int i = 0; i < MOST_PEOPLE; i++) {
                people[i] = new Person(i);
            }
        }

        void copyFrom(World other) {
            law.copyFrom(other.law);
            wide = other.wide;
            high = other.high;
            count = other.count;
            today = other.today;
            for (int cell = 0; cell < MOST_CELLS; cell++) {
                walls[cell] = other.walls[cell];
            }
            for (int i = 0; i < MOST_PEOPLE; i++) {
                people[i].copyFrom(other.people[i]);
            }
        }

        // ---- cells

        int cells() {
            return wide * high;
        }

        boolean isCell(int cell) {
            return cell >= 0 && cell < wide * high && cell < MOST_CELLS;
        }

        void layOut(int wide, int high) {
            this.wide = wide;
            this.high = high;
            for (int cell = 0; cell < MOST_CELLS; cell++) {
                walls[cell] = false;
            }
        }

        boolean hasWall(int cell) {
            return isCell(cell) && walls[cell];
        }

        void setWall(int cell, boolean is) {
            if (isCell(cell)) walls[cell] = is;
        }

        /** Whether it is the home of somebody, or somebody is there. */
        boolean isTaken(int cell) {
            for (int i = 0; i < count && i < MOST_PEOPLE; i++) {
                if (people[i].home == cell || people[i].at == cell) return true;
            }
            return false;
        }

        private int xOf(int cell) {
            return wide > 0 ? cell % wide : 0;
        }

        private int yOf(int cell) {
            return wide > 0 ? cell / wide : 0;
        }

        /** The cell at x and y, if one can go there, else the cell from where. */
        private int cellOr(int x, int y, int from) {
            if (x < 0 || x >= wide || y < 0 || y >= high) return from;
            int cell = wide * y + x;
            return cell < MOST_CELLS && walls[cell] ? from : cell;
        }

        // ---- people

        boolean isPerson(int i) {
            return i >= 0 && i < count && i < MOST_PEOPLE;
        }

        Person personAt(int i) {
            return isPerson(i) ? people[i] : null;
        }

        /** One more comes: the number, or FULL. */
        int settle(Walker kind, int v, int home, int purse) {
            if (count < 0 || count >= MOST_PEOPLE) return FULL;
            people[count].settle(kind, v, home, purse);
            count++;
            return count - 1;
        }

        boolean areAllAtOneCell() {
            for (int i = 1; i < count && i < MOST_PEOPLE; i++) {
                if (people[i].at != people[0].at) return false;
            }
            return true;
        }

        boolean isAs(World other, boolean alsoMoney) {
            for (int i = 0; i < count && i < MOST_PEOPLE; i++) {
                Person one = people[i];
                Person was = other.people[i];
                if (one.at != was.at) return false;
                if (alsoMoney && (one.purse != was.purse || !one.owesAs(was))) return false;
            }
            return true;
        }

        int pursesTogether() {
            int together = 0;
            for (int i = 0; i < count && i < MOST_PEOPLE; i++) {
                together += people[i].purse;
            }
            return together;
        }

        int owedTo(int creditor) {
            int together = 0;
            for (int i = 0; i < count && i < MOST_PEOPLE; i++) {
                int place = people[i].placeOfDebt(creditor);
                if (place >= 0) together += people[i].sumAt(place);
            }
            return together;
        }

        // ---- a day

        private int[] factsOf(Person one) {
            facts[0] = one.number;
            facts[1] = one.kind.number;
            facts[2] = xOf(one.at);
            facts[3] = yOf(one.at);
            facts[4] = today % 7;
            facts[5] = one.debts;
            return facts;
        }

        int earnsOf(Person one) {
            return law.earns(factsOf(one));
        }

        int stepsOf(Person one) {
            return law.rests(factsOf(one)) ? 0 : one.kind.steps(one, today);
        }

        int aimOf(Person one) {
            Person creditor = personAt(one.creditorAt(0));
            if (creditor != null) return creditor.at;
            if (one.kind instanceof Homing) return one.home;
            return law.comesOdd() ? firstDebtorsCell(one) : NEVER;
        }

        private int firstDebtorsCell(Person one) {
            for (int i = 0; i < count && i < MOST_PEOPLE; i++) {
                if (people[i].placeOfDebt(one.number) >= 0) return people[i].at;
            }
            return NEVER;
        }

        void goDays(int n) {
            for (int k = 0; k < n && k < FARTHEST; k++) {
                goOneDay();
            }
        }

        void goOneDay() {
            for (int i = 0; i < count && i < MOST_PEOPLE; i++) {
                Person one = people[i];
                one.earned = earnsOf(one);
                one.next = cellAfter(one, stepsOf(one), aimOf(one));
                one.stays = false;
            }
            keepCrossingApart();
            for (int i = 0; i < count && i < MOST_PEOPLE; i++) {
                if (!people[i].stays) people[i].at = people[i].next;
            }
            for (int i = 0; i < count && i < MOST_PEOPLE; i++) {
                people[i].take(people[i].earned);
                payDebts(people[i]);
            }
            today++;
        }

        /** All pairs are looked at by where the steps alone would lead, so none hangs on another. */
        private void keepCrossingApart() {
            for (int j = 1; j < count && j < MOST_PEOPLE; j++) {
                for (int i = 0; i < j; i++) {
                    Person one = people[i];
                    Person other = people[j];
                    if (one.at != other.at && one.next == other.at && other.next == one.at) other.stays = true;
                }
            }
        }

        private void payDebts(Person one) {
            // A payment empties the purse or ends a debt, so there are no more than debts.
            for (int k = 0; k < MOST_DEBTS; k++) {
                Person creditor = personAt(one.creditorAt(0));
                if (creditor == null || one.purse == 0 || one.at != creditor.at) return;
                creditor.take(one.payFirst());
            }
        }

        private int cellAfter(Person one, int steps, int aim) {
            int cell = one.at;
            for (int k = 0; k < steps && k < MOST_STEPS; k++) {
                cell = one.kind.keepsRow(one)
                    ? beside(cell, one.ways[today & 3])
                    : stepToward(cell, aim, one.kind.takesShorterSide());
            }
            return cell;
        }

        /** Where one way of a ROW leads from a cell. */
        private int beside(int cell, int way) {
            int x = xOf(cell);
            int y = yOf(cell);
            switch (way) {
                case 1: return cellOr(x + 1, y, cell);
                case 2: return cellOr(x - 1, y, cell);
                case 3: return cellOr(x, y + 1, cell);
                case 4: return cellOr(x, y - 1, cell);
                default: return cell;
            }
        }

        private int stepToward(int cell, int aim, boolean shorterSide) {
            if (aim == NEVER) return cell;
            int x = xOf(cell);
            int y = yOf(cell);
            int awayX = Math.abs(xOf(aim) - x);
            int awayY = Math.abs(yOf(aim) - y);
            int besideX = cellOr(nearer(x, xOf(aim)), y, cell);
            int besideY = cellOr(x, nearer(y, yOf(aim)), cell);
            boolean alongX = shorterSide ? awayY == 0 || awayX != 0 && awayX <= awayY : awayX >= awayY;
            int first = alongX ? besideX : besideY;
            return first != cell ? first : alongX ? besideY : besideX;
        }

        private static int nearer(int from, int to) {
            return from < to ? from + 1 : from > to ? from - 1 : from;
        }
    }

    // ---- the KINDS: how each goes, and the bodies of its acts

    static class Walker {
        final int number;

        Walker(int number) {
            this.number = number;
        }

        int steps(Person one, int today) {
            return 1;
        }

        boolean takesShorterSide() {
            return false;
        }

        /** Whether its ROW tells where it goes, and not its AIM. */
        boolean keepsRow(Person one) {
            return false;
        }

        int goes(Person one, int x, Rows trace) {
            trace.add(1);
            return x + one.number;
        }

        int pays(Person one, int x, Rows trace) {
            trace.add(2);
            return goes(one, x, trace) - one.v;
        }

        int tells(Person one, int x, Rows trace) {
            trace.add(3);
            return pays(one, x, trace) * 2;
        }
    }

    static class Swift extends Walker {
        Swift(int number) {
            super(number);
        }

        int steps(Person one, int today) {
            return 2;
        }

        int goes(Person one, int x, Rows trace) {
            trace.add(11);
            return super.goes(one, x * 3, trace);
        }
    }

    static class Shy extends Walker {
        Shy(int number) {
            super(number);
        }

        boolean takesShorterSide() {
            return true;
        }

        int pays(Person one, int x, Rows trace) {
            trace.add(21);
            return -super.pays(one, x, trace);
        }
    }

    static class Homing extends Walker {
        Homing(int number) {
            super(number);
        }

        int tells(Person one, int x, Rows trace) {
            trace.add(31);
            return super.tells(one, x, trace) ^ 7;
        }
    }

    static final class Rich extends Swift {
        Rich(int number) {
            super(number);
        }

        int steps(Person one, int today) {
            return one.purse > 10 * one.v ? 2 : 1;
        }

        int tells(Person one, int x, Rows trace) {
            trace.add(41);
            return super.tells(one, x - 1, trace) + goes(one, 2, trace);
        }
    }

    static final class Resting extends Shy {
        Resting(int number) {
            super(number);
        }

        int steps(Person one, int today) {
            int every = one.v + 2;
            return every > 0 && today % every == 0 ? 0 : 1;
        }

        int goes(Person one, int x, Rows trace) {
            trace.add(51);
            return super.goes(one, x, trace) ^ one.number;
        }
    }

    static final class Told extends Homing {
        Told(int number) {
            super(number);
        }

        boolean keepsRow(Person one) {
            return one.debts > 0;
        }

        int pays(Person one, int x, Rows trace) {
            trace.add(61);
            return super.pays(one, x, trace) + one.v;
        }
    }
}
