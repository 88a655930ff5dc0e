/**
 * FAULT: the place of the first byte with which no LAW can go on (the size, if
 * it ends too early). Good laws are spoiled at every place by every byte, and
 * are read once more by a machine that looks at one byte after the other: what
 * may come next, and what is open.
 */
final class FaultsTest {
    private static final Check check = new Check("FaultsTest");

    private static final String[] LAWS = {
        "earn 5 p=1",
        "earn 10 k<12|x>3&y=0;rest d=6;come 1",
        "rest !(p=1)&(x<5|!y>70)",
        "earn 0 !!!!!o=0|(((((d>9)))))",
        "rest !(!(!p=0))|p=1&!!(((x=1)))",
        "come 0;come 9;come 10;come 99",
        "come 1;come 1;come 1;come 1;come 1;come 1;come 1;come 1;come 1;come 1",
        "earn 99 (!(!(p>99&k<0)|x=1)&!!!!y=1);rest (((((o=2)))))&!!!!!p=0|p=1",
        "earn 1 x=9|x=9|x=9|x=9|x=9|x=9|x=9|x=9|x=9|x=9|x=9|x=9|x=9|x=9|x=9|x=9|x=9|x=9|x=9|x=9|x=9|x=9|p=10"};

    private static int read;

    public static void main(String[] args) {
        for (String law : LAWS) {
            check.due("'" + law + "' is a law", new Reader().fault(law), -1);
            begins(law);
            spoiled(law);
        }
        for (int a = 0; a < 128; a++) law("" + (char) a);
        open();
        check.due("so many laws were read", read > 100000);
        check.end();
    }

    private static void law(String text) {
        if (text.length() > 100) return;
        int fault = new Reader().fault(text);
        check.due("law of '" + text + "'", Check.law(new StepOwed(), text), fault < 0 ? 0 : -10 - fault);
        read++;
    }

    private static void begins(String law) {
        for (int size = 0; size <= law.length(); size++) law(law.substring(0, size));
    }

    private static void spoiled(String law) {
        for (int k = 0; k <= law.length(); k++) {
            String ahead = law.substring(0, k);
            String behind = law.substring(k);
            String after = behind.isEmpty() ? "" : behind.substring(1);
            law(ahead + after);
            for (int sign = 0; sign < 128; sign++) {
                law(ahead + (char) sign + after);
                law(ahead + (char) sign + behind);
            }
        }
    }

    /** All ways to open up to seven, closed as they should be, by one too few, and by one too many. */
    private static void open() {
        for (int size = 0; size <= 7; size++) {
            for (int bits = 0; bits < 1 << size; bits++) {
                StringBuilder opens = new StringBuilder();
                for (int k = 0; k < size; k++) opens.append((bits >> k & 1) == 0 ? '!' : '(');
                int close = Integer.bitCount(bits);
                for (String word : new String[] {"earn 1 ", "rest ", "rest p=0&", "earn 3 p=0|!!!!!p=0&"}) {
                    String e = word + opens + "p=0";
                    law(e + ")".repeat(close));
                    law(e + "&" + opens + "p=0" + ")".repeat(close));
                    if (close > 0) law(e + ")".repeat(close - 1));
                    law(e + ")".repeat(close + 1));
                    law(e + ")".repeat(close) + "|!!!!!(p=0)");
                }
            }
        }
    }

    /** A machine that takes one byte after the other, and knows of none what will come. */
    private static final class Reader {
        private static final int BEGIN = 0, WORD = 1, NUMBER = 2, MORE = 3, FACTOR = 4, RELATION = 5;

        private int state = BEGIN;
        private String word = "";
        private int taken;
        /** Whether the number that is read belongs to a test, and may have a second digit. */
        private boolean ofTest, second;
        private String open = "";
        private int clauses = 1;

        int fault(String text) {
            for (int k = 0; k < text.length(); k++) if (!take(text.charAt(k))) return k;
            return isWhole() ? -1 : text.length();
        }

        private boolean isWhole() {
            return state == MORE && (ofTest || word.equals("come ")) && open.indexOf('(') < 0;
        }

        private boolean take(char c) {
            switch (state) {
                case BEGIN: return begin(c);
                case WORD: return inWord(c);
                case NUMBER: return digit(c);
                case MORE: return more(c);
                case FACTOR: return factor(c);
                default: return relation(c);
            }
        }

        private boolean to(boolean good, int next) {
            state = next;
            return good;
        }

        private boolean begin(char c) {
            for (String w : new String[] {"earn ", "rest ", "come "}) if (w.charAt(0) == c) word = w;
            taken = 1;
            ofTest = false;
            return to("erc".indexOf(c) >= 0, WORD);
        }

        private boolean inWord(char c) {
            boolean good = word.charAt(taken) == c;
            taken++;
            if (taken == word.length()) state = word.equals("rest ") ? FACTOR : NUMBER;
            return good;
        }

        private boolean digit(char c) {
            second = c != '0';
            return to(c >= '0' && c <= '9', MORE);
        }

        private boolean more(char c) {
            if (c >= '0' && c <= '9') {
                boolean good = second;
                second = false;
                return good;
            }
            if (!ofTest && word.equals("earn ")) return to(c == ' ', FACTOR);
            if (ofTest) endFactor();
            if (c == ';') return to(open.isEmpty() && clauses++ < 10, BEGIN);
            if (!ofTest) return false;
            if (c == ')') return close();
            return to(c == '&' || c == '|', FACTOR);
        }

        private void endFactor() {
            while (open.endsWith("!")) open = open.substring(0, open.length() - 1);
        }

        private boolean close() {
            if (!open.endsWith("(")) return false;
            open = open.substring(0, open.length() - 1);
            endFactor();
            second = false;
            return true;
        }

        private boolean factor(char c) {
            if (c == '!' || c == '(') {
                open += c;
                return open.length() <= 5;
            }
            return to("pkxydo".indexOf(c) >= 0, RELATION);
        }

        private boolean relation(char c) {
            ofTest = true;
            return to("<=>".indexOf(c) >= 0, NUMBER);
        }
    }
}
