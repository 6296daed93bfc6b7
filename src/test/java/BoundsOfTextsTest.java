/**
 * The boundaries that "Terms", part 1, names for texts: what may stand how often, and the PLACE of what can't. Each
 * T is tried wherever a T may stand (FRAMES), for each of these ways through the text could miss a bound of its own.
 */
public final class BoundsOfTextsTest {
    private static final String[] FRAMES = {
        "put @ 1;", "put 1 @;", "put 1+@ 1;", "put 1 1-@;", "say @;", "say 1*@;", "say @<1;", "say 1=@;", "say 1<1+@;",
        "when @ ()", "when 1=@ ()", "when @=1 (say 1;)", "when 1 (say @;)", "when 1 (when 1 (put @ @;))",
        "say 1;say @;", "when 1 () say @;"
    };
    private static final String[] OPENERS = {"get ", "outside ", "("};
    /** A text of 4 S, cut wherever a blank may stand. */
    private static final String[] TOKENS = {
        "put", " ", "a", "+", "12", " ", "get", "(", "outside", " ", "b", "<", "id", ")", ";", "say", "(", "0", ")",
        "=", "b", "*", "2", ";", "when", "(", "a", ")", "-", "3", "(", "say", " ", "1", ";", ")"
    };
    private static final String OTHERS = "\t\n\r\0\u001f!\"#$%&',./:>?@AZ[\\]^_`{|}~\u007f\u0080\u00a0\u00ff";

    public static void main(String[] args) {
        oneByteMore();
        putHasTwo();
        sayHasOne();
        whenHasAnEAndAny();
        oneComparisonAtMost();
        sumsHaveAnyJoins();
        oneToSixDigits();
        asManyDigitsAsStandThere();
        wordsAreWhole();
        wordsWhereTheyCanNotStand();
        blanksAheadOfAll();
        otherBytesNowhere();
        thirtySteps();
        thirtyFirstStep();
        sixWhens();
        sevenWhensOneBehindAnother();
        twelveOpen();
        thirteenthOpen();
        openTillTheirTEnds();
        theBracketOfWhenIsNone();
        theEnd();
        Check.close("BoundsOfTextsTest");
    }

    private static String in(String frame, String term) {
        return frame.replace("@", term);
    }

    private static int steps(String frame) {
        return frame.split("put|say|when", -1).length - 1;
    }

    /** The first term of a frame stands at frame.indexOf('@'); bad is counted from there. */
    private static void noneInFrames(String term, int bad) {
        for (String frame : FRAMES) {
            Check.none(in(frame, term), frame.indexOf('@') + bad);
        }
    }

    private static void standsInFrames(String term) {
        for (String frame : FRAMES) {
            Check.stands(in(frame, term), steps(frame));
        }
    }

    /** Which of all 256 bytes may come next, at each sort of place. */
    private static void oneByteMore() {
        for (int value = 0; value < 256; value++) {
            char c = (char) value;
            boolean letter = c >= 'a' && c <= 'z';
            boolean digit = c >= '0' && c <= '9';
            boolean join = "+-*<= ".indexOf(c) >= 0;
            Check.same("alone: " + value, one("" + c), c == ' ' ? 0 : -2);
            Check.same("behind an S: " + value, one("say 1;" + c), c == ' ' ? 1 : -8);
            Check.same("behind say: " + value, one("say" + c), letter ? -2 : digit || c == ' ' || c == '(' ? -6 : -5);
            boolean begins = digit || c == 'a' || c == 'b' || c == '(' || c == ' ';
            Check.same("a T: " + value, one("say " + c), begins ? -7 : -6);
            int due = c == ';' ? 1 : join ? -8 : letter ? -6 : -7;
            Check.same("behind a: " + value, one("say a" + c), due);
            due = c == ';' ? 1 : join || digit ? -8 : -7;
            Check.same("behind 1: " + value, one("say 1" + c), due);
            boolean goesOn = "+-* (ab".indexOf(c) >= 0 || digit;
            Check.same("behind put 1: " + value, one("put 1" + c), goesOn ? -8 : -7);
            Check.same("in when: " + value, one("when 1(" + c), c == ')' ? 1 : c == ' ' ? -10 : -9);
        }
    }

    private static int one(String text) {
        return Check.tell(new ReplayHouse(), 0, 0, text);
    }

    private static void putHasTwo() {
        Check.none("put;", 3);
        Check.none("put 1;", 5);
        Check.stands("put 1 2;", 1);
        Check.none("put 1 2 3;", 8);
        Check.none("put 1-2;", 7);
        Check.stands("put 1-2 3;", 1);
        Check.none("put 1 2", 7);
        Check.none("put 1 2;;", 8);
    }

    private static void sayHasOne() {
        Check.none("say;", 3);
        Check.stands("say 1;", 1);
        Check.none("say 1 1;", 6);
        Check.none("say 1", 5);
        Check.none("say 1;;", 6);
    }

    private static void whenHasAnEAndAny() {
        Check.none("when ()", 6);
        Check.none("when (", 6);
        Check.none("when 1", 6);
        Check.none("when 1 say 1;", 7);
        Check.none("when 1)", 6);
        Check.none("when 1(", 7);
        Check.stands("when 1()", 1);
        Check.stands("when 1(say 1;)", 2);
        Check.stands("when 1(say 1;say 1;)", 3);
        Check.none("when 1(say 1;", 13);
        Check.none("when 1())", 8);
        Check.none("when 1(;)", 7);
        Check.none("when 1();", 8);
        Check.none("when (1)", 8);
        Check.stands("when (1)()", 1);
        Check.none("when 1 2()", 7);
    }

    private static void oneComparisonAtMost() {
        for (String sign : new String[] {"<", "="}) {
            Check.stands("say 1" + sign + "2;", 1);
            Check.none("say 1" + sign + ";", 6);
            Check.none("say " + sign + "1;", 4);
            Check.none("say 1" + sign + sign + "1;", 6);
            Check.none("say 1" + sign + "2<3;", 7);
            Check.none("say 1" + sign + "2=3;", 7);
            Check.stands("say 1" + sign + "(2=3);", 1);
            Check.stands("say (1<2)" + sign + "3;", 1);
            Check.none("say (1" + sign + "2<3);", 8);
            Check.stands("when 1" + sign + "2()", 1);
            Check.none("when 1" + sign + "2=3()", 8);
            Check.none("put 1" + sign + "2 3;", 5);
            Check.none("put 1 2" + sign + "3;", 7);
            Check.stands("put (1" + sign + "2) (2" + sign + "3);", 1);
        }
    }

    private static void sumsHaveAnyJoins() {
        for (String sign : new String[] {"+", "-", "*"}) {
            for (int joins : new int[] {0, 1, 2, 30, 190}) {
                Check.stands("say 1" + (sign + "1").repeat(joins) + ";", 1);
                Check.none("say 1" + (sign + "1").repeat(joins) + sign + ";", 6 + 2 * joins);
            }
            Check.none("say " + sign + "1;", 4);
            Check.none("put 1 " + sign + "1;", 8);
            noneInFrames("(" + sign + "1)", 1);
            noneInFrames("a" + sign + sign + "a", 2);
        }
    }

    private static void oneToSixDigits() {
        for (String digits : new String[] {"1234567890", "0000000000", "9999999999"}) {
            for (int length = 1; length <= 10; length++) {
                String number = digits.substring(0, length);
                if (length <= 6) {
                    standsInFrames(number);
                    Check.same(number, Check.worked(number, 0, 0), Integer.parseInt(number));
                } else {
                    noneInFrames(number, 6);
                }
            }
        }
    }

    private static void asManyDigitsAsStandThere() {
        Check.stands("put 123456 7;", 1);
        Check.none("put 1234567;", 10);
        Check.none("put 123456;", 10);
        Check.none("say 123456 7;", 11);
        Check.stands("put 123456(7);", 1);
        Check.stands("put 123456a;", 1);
        Check.none("put 123456a7 8;", 11);
        Check.stands("say 123456-123456;", 1);
        Check.none("say 123456-1234567;", 17);
        Check.none("say 1234567", 10);
        Check.none("say 1 1234567;", 6);
        ReplayHouse x = new ReplayHouse();
        Check.set(x, 0, 0, "put 12 3456;");
        x.ask(0, 0, 0, 0);
        Check.same("12 is key 4", x.end(0, 4), 3456);
    }

    private static void wordsAreWhole() {
        for (String word : new String[] {"put", "say", "when"}) {
            for (String spoilt : new String[] {word + "a", word + "put", "a" + word, word.substring(1), "p" + word}) {
                Check.none(spoilt + " 1 2;", 0);
                Check.none("  " + spoilt + " 1 2;", 2);
                Check.none("say 1;" + spoilt + " 1 2;", 6);
            }
            Check.none(word.substring(0, word.length() - 1) + " 1 2;", 0);
            Check.none(word.substring(0, word.length() - 1), 0);
            Check.none(word.toUpperCase() + " 1 2;", 0);
            Check.none(word + "A", word.length());
            Check.none(word, word.length());
        }
        for (String word : new String[] {"a", "b", "id", "get", "outside"}) {
            noneInFrames(word + "a", 0);
            noneInFrames(word + word, 0);
            noneInFrames("x" + word, 0);
            noneInFrames(word.toUpperCase(), 0);
        }
        for (String cut : new String[] {"i", "d", "ge", "et", "outsid", "utside"}) {
            noneInFrames(cut, 0);
            noneInFrames(cut + " a", 0);
        }
        standsInFrames("get1");
        standsInFrames("outside(a)");
        Check.stands("put a1;", 1);
        Check.stands("put id(id);", 1);
        Check.none("put id id id;", 10);
    }

    private static void wordsWhereTheyCanNotStand() {
        for (String word : new String[] {"put", "say", "when"}) {
            noneInFrames(word, 0);
            Check.none("say 1 " + word + " 1 2;", 6);
        }
        for (String word : new String[] {"a", "b", "id", "get", "outside"}) {
            Check.none(word + ";", 0);
            Check.none("say 1 " + word + ";", 6);
            Check.none("when 1(" + word + ")", 7);
        }
        noneInFrames("(get get)", 8);
        noneInFrames("(outside outside)", 16);
        noneInFrames("get put", 4);
    }

    private static void blanksAheadOfAll() {
        for (int gap = 0; gap <= TOKENS.length; gap++) {
            for (int blanks : new int[] {1, 2, 40}) {
                Check.stands(withAt(gap, " ".repeat(blanks)), 4);
            }
        }
        Check.stands(String.join(" ", TOKENS) + " ", 4);
        Check.stands(" ", 0);
        Check.none("s ay 1;", 0);
        Check.none("sa y 1;", 0);
        Check.none("say g et 1;", 4);
        Check.none("say 1 2;", 6);
    }

    private static void otherBytesNowhere() {
        for (char other : OTHERS.toCharArray()) {
            for (int gap = 0; gap <= TOKENS.length; gap++) {
                int place = withAt(gap, "@").indexOf('@');
                Check.none(withAt(gap, "" + other), place);
                Check.none(withAt(gap, "  " + other), place + 2);
            }
        }
    }

    private static String withAt(int gap, String piece) {
        StringBuilder text = new StringBuilder();
        for (int i = 0; i < TOKENS.length; i++) {
            text.append(i == gap ? piece : "").append(TOKENS[i]);
        }
        return text.append(gap == TOKENS.length ? piece : "").toString();
    }

    private static void thirtySteps() {
        for (String step : new String[] {"put 1 2;", "say 1;", "when 1()"}) {
            Check.stands(step.repeat(29), 29);
            Check.stands(step.repeat(30), 30);
            Check.stands(step.repeat(30) + "   ", 30);
            Check.stands("when 1(" + step.repeat(29) + ")", 30);
            Check.stands("when 1(when 1(" + step.repeat(14) + ")" + step.repeat(14) + ")", 30);
        }
        String six = "when 1(".repeat(6) + ")".repeat(6);
        Check.stands(six.repeat(5), 30);
    }

    private static void thirtyFirstStep() {
        String six = "when 1(".repeat(6) + ")".repeat(6);
        for (String more : new String[] {"put 1 2;", "say 1;", "when 1()", "say", "s"}) {
            Check.none("say 1;".repeat(30) + more, 180);
            Check.none("say 1;".repeat(30) + "  " + more, 182);
            Check.none("when 1(" + "say 1;".repeat(29) + more + ")", 181);
            Check.none("when 1(" + "say 1;".repeat(29) + ")" + more, 182);
            Check.none("say 1;".repeat(29) + "when 1(" + more + ")", 181);
            Check.none("say 1;".repeat(29) + "when 1( " + more + ")", 182);
            Check.none(six.repeat(5) + more, 240);
            Check.none("say 1;".repeat(24) + "when 1(".repeat(6) + more, 186);
        }
        Check.none("say 1;".repeat(30) + ";", 180);
        Check.none("say 1;".repeat(30) + ")", 180);
    }

    private static void sixWhens() {
        String open = "when 1(";
        for (int whens = 0; whens <= 6; whens++) {
            Check.stands(open.repeat(whens) + "say 1;" + ")".repeat(whens), whens + 1);
            Check.none(open.repeat(whens) + "say 1;" + ")".repeat(whens + 1), 8 * whens + 6);
        }
        for (int whens = 7; whens <= 9; whens++) {
            Check.none(open.repeat(whens) + ")".repeat(whens), 42);
        }
        Check.none(open.repeat(6) + "   " + open, 45);
        Check.none(open.repeat(6) + "say 1;" + open, 48);
        Check.none(open.repeat(6) + "when", 42);
        Check.none(open.repeat(6) + "whens", 42);
    }

    private static void sevenWhensOneBehindAnother() {
        String open = "when 1(";
        Check.stands((open + ")").repeat(7), 7);
        Check.stands(open.repeat(6) + ")" + open + ")".repeat(6), 7);
        Check.none(open.repeat(6) + ")" + open + open, 50);
        Check.stands(open.repeat(6) + "))" + open + open + ")".repeat(6), 8);
        Check.none(open.repeat(6) + "))" + open + open + open, 58);
        Check.stands(open.repeat(6) + ")".repeat(6) + open.repeat(6) + ")".repeat(6), 12);
        Check.none(open.repeat(6) + ")".repeat(6) + open.repeat(7), 90);
        Check.stands(open + (open.repeat(5) + ")".repeat(5)).repeat(2) + ")", 11);
        Check.none(open + (open.repeat(6) + ")".repeat(6)), 42);
    }

    /** So many openers, the first one of a sort, the next of the next sort; shut where they are brackets. */
    private static String opened(int first, int many) {
        StringBuilder text = new StringBuilder();
        for (int i = 0; i < many; i++) {
            text.append(OPENERS[(first + i) % 3]);
        }
        return text.toString();
    }

    private static String shut(String opened) {
        return ")".repeat((int) opened.chars().filter(c -> c == '(').count());
    }

    private static void twelveOpen() {
        for (String opener : OPENERS) {
            for (int many = 1; many <= 12; many++) {
                standsInFrames(opener.repeat(many) + "a" + shut(opener.repeat(many)));
            }
        }
        for (int first = 0; first < 3; first++) {
            standsInFrames(opened(first, 12) + "7" + shut(opened(first, 12)));
        }
    }

    private static void thirteenthOpen() {
        for (String opener : OPENERS) {
            for (int first = 0; first < 3; first++) {
                String twelve = opened(first, 12);
                noneInFrames(twelve + opener + "a" + ")" + shut(twelve), twelve.length());
                noneInFrames(twelve + "   " + opener + "a" + ")" + shut(twelve), twelve.length() + 3);
                noneInFrames(twelve + opener, twelve.length());
            }
            String same = opener.repeat(12);
            noneInFrames(same + opener + "a" + shut(same + opener), same.length());
        }
        noneInFrames("get ".repeat(12) + "getx", 48);
        noneInFrames("get ".repeat(12) + ")", 48);
    }

    private static void openTillTheirTEnds() {
        for (String join : new String[] {"+", "-", "*", "<", "="}) {
            for (int first = 0; first < 3; first++) {
                String twelve = opened(first, 12) + "a" + shut(opened(first, 12));
                Check.stands("say " + twelve + join + twelve + ";", 1);
            }
            for (int outer = 0; outer <= 11; outer++) {
                String within = "get ".repeat(11 - outer) + "a" + join;
                String text = "say " + "get ".repeat(outer) + "(" + within;
                Check.stands(text + "get ".repeat(11 - outer) + "b);", 1);
                Check.none(text + "get ".repeat(12 - outer) + "b);", text.length() + 4 * (11 - outer));
                Check.none(text + "get ".repeat(11 - outer) + "(b));", text.length() + 4 * (11 - outer));
                text = "say " + "(".repeat(outer) + "(a)" + join;
                Check.stands(text + "(".repeat(12 - outer) + "b" + ")".repeat(12) + ";", 1);
                Check.none(text + "(".repeat(13 - outer) + "b" + ")".repeat(13) + ";", text.length() + 12 - outer);
            }
        }
        String twelve = "get ".repeat(12) + "a";
        String steps = "put " + twelve + " " + twelve + ";say " + twelve + ";";
        Check.stands(steps + "when " + twelve + "(say " + twelve + ";)", 4);
    }

    private static void theBracketOfWhenIsNone() {
        String whens = "when a(".repeat(6);
        Check.stands(whens + "say " + "(".repeat(12) + "a" + ")".repeat(12) + ";" + ")".repeat(6), 7);
        Check.none(whens + "say " + "(".repeat(13) + "a" + ")".repeat(13) + ";" + ")".repeat(6), 58);
        Check.stands("when a(".repeat(5) + "when " + "(".repeat(12) + "a" + ")".repeat(12) + "()" + ")".repeat(5), 6);
        Check.stands("say " + "(".repeat(12) + "a" + ")".repeat(12) + ";" + whens + ")".repeat(6), 7);
    }

    /** Each beginning of a text that ends too early has its length as PLACE, or that of the word that is cut. */
    private static void theEnd() {
        String text = "put a+12 get(outside b<id);when(a)-3(say 1;)";
        for (int length = 1; length < text.length(); length++) {
            String beginning = text.substring(0, length);
            if (beginning.endsWith(";") && !beginning.contains("when")) {
                Check.stands(beginning, 1);
                continue;
            }
            String word = beginning.replaceAll(".*[^a-z]", "");
            boolean whole = word.matches("put|a|get|outside|b|id|when|say|");
            Check.none(beginning, whole ? length : length - word.length());
            Check.none(beginning + "   ", whole ? length + 3 : length - word.length());
        }
    }
}
