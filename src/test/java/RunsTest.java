import java.util.NoSuchElementException;

/** Promises 8 to 13: fields, field, end, touched, calls, never. */
public final class RunsTest {
    public static void main(String[] args) {
        order();
        answersAreCut();
        valuesWrap();
        deepest();
        keysAndArguments();
        workedInOrder();
        ids();
        whens();
        touches();
        callsAndNevers();
        versionsAreApart();
        changesShow();
        nothingIsLeft();
        wrongInputs();
        Check.close("RunsTest");
    }

    private static void order() {
        ReplayHouse x = new ReplayHouse();
        Check.tellBoth(x, 0, "say get 0; put 0 get 0*10+a;");
        x.ask(0, 1, 0, 50);
        x.ask(0, 2, 0, 100000);
        x.ask(0, 3, 0, 50);
        x.ask(0, 4, 0, 0);
        x.ask(0, 5, 0, 49);
        Check.same("by tick, then by number", x.end(0, 0), 45132);
        Check.same("what 2 saw", x.field(0, 2, 0), 451);
        x.begin(0, 9);
        Check.same("from the begin", x.end(1, 0), 945132);
    }

    private static void answersAreCut() {
        ReplayHouse x = new ReplayHouse();
        Check.tellBoth(x, 0, "say 1;say 2;say 3;say 4;say 5;say 6;say 7;say id;say id;put 0 id;say outside get 5;");
        x.ask(0, 0, 0, 0);
        Check.same("8 at most", x.fields(0, 0), 8);
        Check.same("the last", x.field(0, 0, 7), 1);
        Check.same("no 9th", x.field(0, 0, 8), 0);
        Check.same("no -1st", x.field(0, 0, -1), 0);
        Check.same("nor others", x.field(0, 0, Integer.MAX_VALUE), 0);
        Check.same("nor others", x.field(0, 0, Integer.MIN_VALUE), 0);
        Check.same("more are worked", x.end(0, 0), 3);
        Check.same("reads too", x.touched(0, 0, 0), 32);
        Check.same("calls too", x.calls(0), 1);
        Check.same("all are done", x.touched(0, 0, 2), 11);
    }

    private static void valuesWrap() {
        Check.same("plus", Check.worked("a+b", Integer.MAX_VALUE, 1), Integer.MIN_VALUE);
        Check.same("minus", Check.worked("a-b", Integer.MIN_VALUE, 1), Integer.MAX_VALUE);
        Check.same("times", Check.worked("a*b", 65536, 65537), 65536);
        Check.same("times", Check.worked("999999*999999", 0, 0), 999999 * 999999);
        Check.same("less", Check.worked("a<b", Integer.MIN_VALUE, Integer.MAX_VALUE), 1);
        Check.same("not less", Check.worked("a<b", 4, 4), 0);
        Check.same("not less", Check.worked("a<b", 4, -5), 0);
        Check.same("like", Check.worked("a=b", -4, -4), 1);
        Check.same("unlike", Check.worked("a=b", -4, 4), 0);
        Check.same("from the left", Check.worked("a-b-1*10+2", 20, 5), 142);
        Check.same("sides of <", Check.worked("a+1<b*2", 7, 4), 0);
        Check.same("sides of =", Check.worked("a+1=b*2", 7, 4), 1);
        Check.same("within ( )", Check.worked("a-(b-1)*(a<b+1)", 7, 4), 0);
    }

    /** As many values held back as there can be: two for each of twelve that are open, two outside, one of put. */
    private static void deepest() {
        ReplayHouse x = new ReplayHouse();
        String text = "put 3 1+" + "(0-7<2*".repeat(12) + "a" + ")".repeat(12) + ";";
        Check.same(text, Check.tell(x, 0, 0, text), 1);
        text = "say 0-9<1+" + "(0-7<2*".repeat(12) + "a" + ")".repeat(12) + ";";
        Check.same(text, Check.tell(x, 1, 0, text), 1);
        x.ask(0, -4, 0, 0);
        Check.same("put", x.end(0, 3), 2);
        Check.same("say", x.field(1, 0, 0), 1);
        text = "put 3 1+" + "(0-7=2*".repeat(12) + "a" + ")".repeat(12) + ";";
        Check.same(text, Check.tell(x, 0, 0, text), 1);
        Check.same("unlike", x.end(0, 3), 1);
    }

    private static void keysAndArguments() {
        ReplayHouse x = new ReplayHouse();
        Check.tellBoth(x, 0, "put a b; say get(a+8); say outside b;");
        x.keep(15, 77);
        x.ask(0, -1, -1, 0);
        x.ask(0, 8 + 3, 17, 0);
        Check.same("key 7", x.end(0, 7), -1);
        Check.same("key 3", x.end(0, 3), 17);
        Check.same("get 7", x.field(0, 0, 0), -1);
        Check.same("outside 15", x.field(0, 0, 1), 77);
        Check.same("outside 1", x.field(0, 1, 1), 0);
        Check.same("writes 7", x.touched(0, 0, 1), 128);
        Check.same("reads 7", x.touched(0, 0, 0), 128);
    }

    private static void workedInOrder() {
        Check.same("left first", Check.worked("id*10-id", 0, 0), 8);
        Check.same("left first of <", Check.worked("id<id", 0, 0), 1);
        Check.same("both sides", Check.worked("(0*id)+id", 0, 0), 2);
        ReplayHouse x = new ReplayHouse();
        Check.tellBoth(x, 0, "put id id; put get 1 get 2;");
        x.ask(0, 0, 0, 0);
        Check.same("the key first", x.end(0, 1), 2);
        Check.same("the second later", x.end(0, 2), 0);
    }

    private static void ids() {
        ReplayHouse x = new ReplayHouse();
        Check.tellBoth(x, 0, "say id; say id;");
        x.ask(0, 0, 0, 1);
        x.ask(0, 0, 0, 0);
        Check.same("from 1 on", x.field(0, 1, 0), 1);
        Check.same("one more", x.field(0, 1, 1), 2);
        Check.same("on and on", x.field(0, 0, 1), 4);
        Check.same("in each run", x.field(1, 0, 0), 3);
    }

    private static void whens() {
        ReplayHouse x = new ReplayHouse();
        Check.tellBoth(x, 0, "when a (when b (say 1;) say 2; when b=0 (say 3; when a<0 (say 4;))) say 5;");
        int[][] asks = {{0, 0, 2, 1}, {1, 0, 7, 3}, {1, 9, 6, 3}, {-1, 0, 8, 4}, {0, 1, 2, 1}};
        for (int i = 0; i < asks.length; i++) {
            x.ask(0, asks[i][0], asks[i][1], i);
            Check.same("S done " + i, x.touched(1, i, 2), asks[i][2]);
            Check.same("fields " + i, x.fields(1, i), asks[i][3]);
            Check.same("the last " + i, x.field(1, i, asks[i][3] - 1), 5);
        }
        Check.same("3 and 5 of ask 1", x.field(0, 1, 1), 3);
        Check.same("1 of ask 2", x.field(0, 2, 0), 1);
    }

    private static void touches() {
        ReplayHouse x = new ReplayHouse();
        Check.tellBoth(x, 0, "put get 1 get 2; put 3 get 3; when 0 (put 6 get 6;)");
        x.begin(1, 4);
        x.ask(0, 0, 0, 0);
        Check.same("reads", x.touched(0, 0, 0), 2 + 4 + 8);
        Check.same("writes", x.touched(0, 0, 1), 16 + 8);
        Check.same("done", x.touched(0, 0, 2), 3);
        Check.same("an empty text", x.ask(1, 0, 0, 0), 1);
        for (int what = 0; what < 3; what++) {
            Check.same("touches nothing", x.touched(0, 1, what), 0);
        }
    }

    private static void callsAndNevers() {
        ReplayHouse x = new ReplayHouse();
        Check.set(x, 0, 0, "say outside outside a; when b (say outside 1; when 0 (say 1;))");
        Check.set(x, 1, 0, "when 0 (say outside 1; say 1;)");
        Check.same("no ask, none done", x.never(0, 0), 5);
        Check.same("no ask, no call", x.calls(0), 0);
        x.ask(0, 1, 0, 0);
        Check.same("two calls", x.calls(0), 2);
        Check.same("three never", x.never(0, 0), 3);
        x.ask(0, 1, 1, 0);
        Check.same("five calls", x.calls(0), 5);
        Check.same("one never", x.never(0, 0), 1);
        Check.same("no call in the other", x.calls(1), 0);
        Check.same("two never in the other", x.never(1, 0), 2);
        Check.same("nothing to do", x.never(1, 1), 0);
        ReplayHouse y = new ReplayHouse();
        Check.set(y, 0, 3, "say 1;".repeat(30));
        Check.same("30 never", y.never(0, 3), 30);
        y.ask(3, 0, 0, 0);
        Check.same("30 done", y.never(0, 3), 0);
        Check.same("30 for it", y.touched(0, 0, 2), 30);
    }

    private static void versionsAreApart() {
        ReplayHouse x = new ReplayHouse();
        Check.set(x, 0, 0, "put 1 a;say get 1;");
        Check.set(x, 1, 0, "put 1 get 1+b;");
        x.ask(0, 5, 6, 0);
        x.ask(0, 7, 8, 0);
        Check.same("end 0", x.end(0, 1), 7);
        Check.same("end 1", x.end(1, 1), 14);
        Check.same("fields 0", x.fields(0, 1), 1);
        Check.same("fields 1", x.fields(1, 1), 0);
        Check.same("no field", x.field(1, 1, 0), 0);
        Check.same("reads 1", x.touched(1, 1, 0), 2);
    }

    private static void changesShow() {
        ReplayHouse x = new ReplayHouse();
        Check.tellBoth(x, 0, "say get 1+outside 2+a;");
        x.ask(0, 1, 0, 5);
        Check.same("1", x.field(0, 0, 0), 1);
        x.begin(1, 10);
        Check.same("11", x.field(0, 0, 0), 11);
        x.keep(2, 100);
        Check.same("111", x.field(0, 0, 0), 111);
        Check.tellBoth(x, 1, "put 1 50;");
        x.ask(1, 0, 0, 0);
        Check.same("151", x.field(0, 0, 0), 151);
        Check.tellBoth(x, 0, "say 8;");
        Check.same("8", x.field(0, 0, 0), 8);
        Check.same("8 in both", x.field(1, 0, 0), 8);
    }

    /** What an earlier run left must not show in the next. */
    private static void nothingIsLeft() {
        ReplayHouse x = new ReplayHouse();
        Check.tellBoth(x, 0, "when get 0 (put 1 get 2; say outside 3;)");
        x.begin(0, 1);
        x.ask(0, 0, 0, 0);
        Check.same("reads", x.touched(0, 0, 0), 5);
        Check.same("writes", x.touched(0, 0, 1), 2);
        Check.same("never", x.never(0, 0), 0);
        Check.same("calls", x.calls(0), 1);
        x.begin(0, 0);
        Check.same("reads less", x.touched(0, 0, 0), 1);
        Check.same("writes less", x.touched(0, 0, 1), 0);
        Check.same("does less", x.touched(0, 0, 2), 1);
        Check.same("says less", x.fields(0, 0), 0);
        Check.same("never more", x.never(0, 0), 2);
        Check.same("calls less", x.calls(0), 0);
    }

    private static void wrongInputs() {
        ReplayHouse x = new ReplayHouse();
        x.ask(0, 0, 0, 0);
        Class<NoSuchElementException> noAsk = NoSuchElementException.class;
        Class<IllegalArgumentException> wrong = IllegalArgumentException.class;
        Class<IndexOutOfBoundsException> noKey = IndexOutOfBoundsException.class;
        for (int ask : new int[] {-1, 1, 30, Integer.MAX_VALUE, Integer.MIN_VALUE}) {
            Check.fails("fields of " + ask, noAsk, () -> x.fields(0, ask));
            Check.fails("field of " + ask, noAsk, () -> x.field(0, ask, 0));
            Check.fails("touched of " + ask, noAsk, () -> x.touched(0, ask, 0));
        }
        for (int version : new int[] {-1, 2, Integer.MAX_VALUE, Integer.MIN_VALUE}) {
            Check.fails("fields in " + version, wrong, () -> x.fields(version, 0));
            Check.fails("field in " + version, wrong, () -> x.field(version, 0, 0));
            Check.fails("end in " + version, wrong, () -> x.end(version, 0));
            Check.fails("touched in " + version, wrong, () -> x.touched(version, 0, 0));
            Check.fails("calls in " + version, wrong, () -> x.calls(version));
            Check.fails("never in " + version, wrong, () -> x.never(version, 0));
            Check.fails("lag in " + version, wrong, () -> x.lag(version, 1, 1));
        }
        twoAreWrong(x);
        Check.fails("key -1", noKey, () -> x.end(0, -1));
        Check.fails("key 8", noKey, () -> x.end(0, 8));
        Check.fails("what -1", wrong, () -> x.touched(0, 0, -1));
        Check.fails("what 3", wrong, () -> x.touched(0, 0, 3));
        Check.fails("kind -1", wrong, () -> x.never(0, -1));
        Check.fails("kind 4", wrong, () -> x.never(0, 4));
    }

    /** The document does not say which is thrown if two are due: the class takes the one that the face names first. */
    private static void twoAreWrong(ReplayHouse x) {
        Class<NoSuchElementException> noAsk = NoSuchElementException.class;
        Check.fails("no ask, no version: fields", noAsk, () -> x.fields(2, 1));
        Check.fails("no ask, no version: field", noAsk, () -> x.field(-1, 1, 0));
        Check.fails("no ask, no version: touched", noAsk, () -> x.touched(2, -1, 0));
        Check.fails("no ask, no what: touched", noAsk, () -> x.touched(0, 1, 3));
        Check.fails("no key, no version: end", IndexOutOfBoundsException.class, () -> x.end(2, 8));
    }
}
