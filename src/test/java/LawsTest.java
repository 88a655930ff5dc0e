/** Promises 2 and 3: THE TAPE, and the LAWS that are read from it. */
final class LawsTest {
    private static final Check check = new Check("LawsTest");

    public static void main(String[] args) {
        tape();
        faults();
        goodLaws();
        numbers();
        faultKeepsTheLaw();
        tests();
        clauses();
        daysAndDebts();
        manyLongLaws();
        check.end();
    }

    private static void tape() {
        StepOwed x = new StepOwed();
        check.due("feed(0)", x.feed(0), 1);
        check.due("feed(127)", x.feed(127), 2);
        check.refused(x, "feed(-1)", () -> x.feed(-1), StepOwed.BAD);
        check.refused(x, "feed(128)", () -> x.feed(128), StepOwed.BAD);
        check.refused(x, "feed(MAX)", () -> x.feed(Integer.MAX_VALUE), StepOwed.BAD);
        check.refused(x, "feed(MIN)", () -> x.feed(Integer.MIN_VALUE), StepOwed.BAD);
        check.due("law() of a 0", x.law(), -10);
        check.due("the tape is empty then", x.count(4), 0);
        for (int k = 1; k <= 100; k++) check.due("feed " + k, x.feed(101), k);
        check.refused(x, "feed 101", () -> x.feed(101), StepOwed.FULL);
        check.refused(x, "BAD ahead of FULL", () -> x.feed(128), StepOwed.BAD);
        check.due("law() of 100 signs", x.law(), -11);
        check.due("feed once more", x.feed(101), 1);
    }

    private static void fault(String text, int place) {
        StepOwed x = new StepOwed();
        check.due("fault of '" + text + "'", Check.law(x, text), -10 - place);
        check.due("tape behind '" + text + "'", x.count(4), 0);
        check.due("laws behind '" + text + "'", x.count(1), 0);
    }

    private static void faults() {
        fault("", 0);
        fault("x", 0);
        fault("Earn 1 p=1", 0);
        fault(" earn 1 p=1", 0);
        fault("e", 1);
        fault("er", 1);
        fault("ears 1", 3);
        fault("earn", 4);
        fault("earn1", 4);
        fault("earn ", 5);
        fault("earn  1 p=1", 5);
        fault("earn p=1", 5);
        fault("earn 1", 6);
        fault("earn 1;", 6);
        fault("earn 1 ", 7);
        fault("earn 00 p=1", 6);
        fault("earn 05 p=1", 6);
        fault("earn 12p=1", 7);
        fault("earn 123 p=1", 7);
        fault("earn 1 p=1 ", 10);
        fault("earn 1 p=1;", 11);
        fault("earn 1 p=1;;", 11);
        fault("earn 1 p=1; rest p=1", 11);
        fault("earn 1 p=1;x", 11);
        fault("re", 2);
        fault("rest 1", 5);
        fault("rest q=1", 5);
        fault("rest p", 6);
        fault("rest p1", 6);
        fault("rest p!1", 6);
        fault("rest p=", 7);
        fault("rest p==1", 7);
        fault("rest p=x", 7);
        fault("rest p=01", 8);
        fault("rest p=100", 9);
        fault("rest p=1|", 9);
        fault("rest p=1|&", 9);
        fault("rest p=1&&p=1", 9);
        fault("rest p=1&", 9);
        fault("rest (p=1", 9);
        fault("rest p=1)", 8);
        fault("rest ()", 6);
        fault("rest (p=1))", 10);
        fault("rest (p=1;", 9);
        fault("rest !", 6);
        fault("rest !)", 6);
        fault("rest p=1!p=1", 8);
        fault("rest p=1(p=1)", 8);
        fault("come", 4);
        fault("come ", 5);
        fault("come -1", 5);
        fault("come 05", 6);
        fault("come 5 p=1", 6);
        fault("come 123", 7);
        fault("come 1;", 7);
        fault("coma", 3);
        fault("rest !!!!!!p=1", 10);
        fault("rest ((((((p=1", 10);
        fault("rest !(!(!(p=1)))", 10);
        fault("rest (!!!!p=1&!!!!!p=1)", 18);
        fault("rest (((((p=1)))))&((((((p=1", 24);
        fault("come 1;".repeat(10) + "come 1", 69);
        fault("come 1;".repeat(9) + "come 1;", 69);
        fault("rest p=1\u0000", 8);
        fault("earn 1 " + "p=1|".repeat(23) + "p", 100);
    }

    private static void good(String text) {
        check.due("'" + text + "'", Check.law(new StepOwed(), text), 0);
    }

    private static void goodLaws() {
        good("earn 0 p=0");
        good("earn 99 o>99");
        good("rest k<0");
        good("come 0");
        good("come 10");
        good("come 1;".repeat(9) + "come 1");
        good("rest (((((p=1)))))");
        good("rest !!!!!p=1");
        good("rest !(!(!p=1))");
        good("rest !!!!!p=1&!!!!!p=1|!!!!!p=1");
        good("rest (((((p=1)))))|(((((p=1)))))&(((((p=1)))))");
        good("rest !(p=1)&!!!!!p=1");
        good("rest (!!!!p=1&!!!!p=1)");
        good("rest p=1|x=2|y=3&d=4&o=5|k=6");
        good("earn 1 " + "p=1|".repeat(22) + "p=1");
    }

    private static void numbers() {
        StepOwed x = new StepOwed();
        for (int k = 0; k < 5; k++) {
            check.due("count(1)", x.count(1), k);
            check.due("law " + k, Check.law(x, "come " + k), k);
        }
        check.due("count(1)", x.count(1), 5);
        Check.feed(x, "come 5");
        check.refused(x, "a sixth law", x::law, StepOwed.FULL);
        check.due("its tape stays", x.count(4), 6);
        x.feed('x');
        check.refused(x, "FULL ahead of a FAULT", x::law, StepOwed.FULL);
        check.due("that tape stays, too", x.count(4), 7);
    }

    private static void faultKeepsTheLaw() {
        StepOwed x = new StepOwed();
        x.person(0, 0, 0, 0);
        check.due("no law, no earns", x.of(0, 8), 0);
        check.due("law 0", Check.law(x, "earn 7 p=0"), 0);
        check.due("earns by law 0", x.of(0, 8), 7);
        check.due("a fault", Check.law(x, "earn 9 p=0;rest p=0;"), -30);
        check.due("earns by law 0 still", x.of(0, 8), 7);
        check.due("steps by law 0 still", x.of(0, 7), 1);
        check.due("law 1", Check.law(x, "earn 5 p=0;rest p=0"), 1);
        check.due("earns by law 1 alone", x.of(0, 8), 5);
        check.due("steps by law 1", x.of(0, 7), 0);
    }

    /** One in a valley of 5 by 4 with p 0, k 4, x 3, y 2, d 0, o 1. */
    private static StepOwed one() {
        StepOwed x = new StepOwed();
        x.valley(5, 4);
        x.person(4, 0, 13, 0);
        x.person(0, 0, 0, 0);
        x.owe(0, 1, 5);
        return x;
    }

    private static void test(String e, boolean so) {
        StepOwed x = one();
        check.due("law of " + e, Check.law(x, "earn 3 " + e), 0);
        check.due("earns by " + e, x.of(0, 8), so ? 3 : 0);
        StepOwed y = one();
        check.due("law of " + e, Check.law(y, "rest " + e), 0);
        check.due("steps by " + e, y.of(0, 7), so ? 0 : 1);
    }

    private static void tests() {
        String[] facts = {"p0", "k4", "x3", "y2", "d0", "o1"};
        for (String f : facts) {
            int is = f.charAt(1) - '0';
            for (int n = 0; n < 12; n++) {
                test(f.charAt(0) + "=" + n, is == n);
                test(f.charAt(0) + "<" + n, is < n);
                test(f.charAt(0) + ">" + n, is > n);
            }
        }
        test("x=30", false);
        test("x<30", true);
        test("!p=0", false);
        test("!!p=0", true);
        test("!!!p=0", false);
        test("p=1|k=4", true);
        test("k=4|p=1", true);
        test("p=1|k=1", false);
        test("p=0&k=4", true);
        test("p=0&k=1", false);
        test("p=1&k=4", false);
        test("p=1|k=4&x=9", false);
        test("k=4|p=1&x=9", true);
        test("k=4|x=3&x=9", true);
        test("x=9&x=3|k=4", true);
        test("(k=4|p=1)&x=9", false);
        test("x=9&(x=3|k=4)", false);
        test("!p=1&x=9", false);
        test("!(p=1&x=9)", true);
        test("!p=0|k=4", true);
        test("!(p=0|k=4)", false);
        test("x=9|y=9|o=1", true);
        test("o=1|x=9|y=9", true);
        test("x=9|o=1|y=9", true);
        test("p=0&k=4&x=9", false);
        test("x=9&y=9|p=0&k=4", true);
        test("p=0&k=4|x=9&y=9", true);
        test("x=9&p=0|y=9&p=0|o=9", false);
        test("p=0|p=0&x=9|x=9", true);
        test("x=9|(x=9|(x=9|(x=9|(x=9|o=1))))", true);
        test("p=0&(p=0&(p=0&(p=0&(p=0&x=9))))", false);
        test("x=9|p=0&(x=9|p=0&(x=9|p=0&(x=9|p=0&(x=9|p=0&(x=9|p=0&o=1)))))", true);
        test("x=9|p=0&(x=9|p=0&(x=9|p=0&(x=9|p=0&(x=9|p=0&(x=9|p=0&o=2)))))", false);
        test("p=0|x=9&(p=0|x=9&(p=0|x=9&(p=0|x=9&(p=0|x=9&(p=0|x=9&o=2)))))", true);
    }

    private static void clauses() {
        StepOwed x = one();
        Check.law(x, "earn 5 p=0;earn 7 x=3;earn 90 p=9;earn 1 p<9;rest p=1;rest p=2");
        check.due("earns of 0", x.of(0, 8), 13);
        check.due("earns of 1", x.of(1, 8), 1);
        check.due("steps of 0", x.of(0, 7), 1);
        check.due("steps of 1", x.of(1, 7), 0);
        check.due("aim of 1 without come", x.of(1, 6), -5);
        Check.law(x, "come 2;come 11");
        check.due("aim of 1 by the last come, odd", x.of(1, 6), 13);
        check.due("earns by no earn", x.of(0, 8), 0);
        Check.law(x, "come 1;come 0");
        check.due("aim of 1 by the last come, even", x.of(1, 6), -5);
        Check.law(x, "earn 99 p=0;".repeat(7) + "earn 99 p=0");
        check.due("earns of eight 99", x.of(0, 8), 792);
        Check.law(x, "come 1;rest p=9;earn 4 p=1;come 3;earn 2 p=1");
        check.due("words among one another: earns", x.of(1, 8), 6);
        check.due("words among one another: aim", x.of(1, 6), 13);
        check.due("words among one another: steps", x.of(1, 7), 1);
    }

    /** What one law has taken of the room is free for the next one. */
    private static void manyLongLaws() {
        StepOwed x = one();
        for (int k = 0; k < 5; k++) {
            check.due("a long fault", Check.law(x, "rest " + "x=9|".repeat(22) + "p=0;"), -10 - 97);
            check.due("a long law", Check.law(x, "earn " + k + " " + "x=9|".repeat(22) + "p=0"), k);
            check.due("it holds", x.of(0, 8), k);
            check.due("for no other", x.of(1, 8), 0);
        }
        StepOwed y = one();
        Check.law(y, "earn 1 x=3;earn 2 x=9;earn 4 x=3;rest x=9;earn 8 x=3;come 1;earn 16 x=9;rest x=8;earn 32 x=3");
        check.due("each clause by its own E", y.of(0, 8), 45);
        check.due("no rest by an E of earn", y.of(0, 7), 1);
    }

    private static void daysAndDebts() {
        StepOwed x = new StepOwed();
        x.person(0, 0, 0, 0);
        x.person(0, 0, 1, 0);
        x.person(0, 0, 2, 0);
        Check.law(x, "earn 1 d=3;earn 10 o=2&p=0;rest d>4");
        for (int d = 0; d < 16; d++) {
            check.due("earns on day " + d, x.of(2, 8), d % 7 == 3 ? 1 : 0);
            check.due("steps on day " + d, x.of(2, 7), d % 7 > 4 ? 0 : 1);
            x.day();
        }
        check.due("no debts", x.of(0, 8), 0);
        x.owe(0, 1, 5);
        check.due("one debt", x.of(0, 8), 0);
        x.owe(0, 2, 5);
        check.due("two debts", x.of(0, 8), 10);
    }
}
