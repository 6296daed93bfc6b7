/** The boundaries that "Terms", part 1, names for what is worked: values, keys, arguments, fields, when, id. */
public final class BoundsOfValuesTest {
    private static final int MIN = Integer.MIN_VALUE;
    private static final int MAX = Integer.MAX_VALUE;
    private static final int[] EDGES = {
        MIN, MIN + 1, -65537, -65536, -17, -16, -9, -8, -7, -2, -1, 0, 1, 2, 6, 7, 8, 9, 14, 15, 16, 17, 31, 32, 46340,
        46341, 65535, 65536, 999999, MAX - 1, MAX
    };

    public static void main(String[] args) {
        valuesWrap();
        comparisonsGive1Or0();
        workedFromTheLeft();
        bothSidesAreWorked();
        keysByThreeBits();
        argumentsByFourBits();
        eachKeyAndArgumentIsItsOwn();
        eightFields();
        whenNotZero();
        idsFromOneOn();
        putIsWorkedInOrder();
        mostIsHeldBack();
        Check.close("BoundsOfValuesTest");
    }

    /** One text that says all that two numbers can come to, asked for every pair of edges. */
    private static void valuesWrap() {
        for (int a : EDGES) {
            ReplayHouse x = new ReplayHouse();
            Check.set(x, 0, 0, "say a+b;say a-b;say a*b;say a<b;say a=b;say b<a;say 0-a;say a;");
            for (int i = 0; i < Math.min(30, EDGES.length); i++) {
                int b = EDGES[EDGES.length - 1 - i];
                int ask = x.ask(0, a, b, 0);
                int[] due = {a + b, a - b, a * b, a < b ? 1 : 0, a == b ? 1 : 0, b < a ? 1 : 0, -a, a};
                for (int field = 0; field < 8; field++) {
                    Check.same(a + " and " + b + ": " + field, x.field(0, ask, field), due[field]);
                }
            }
        }
        Check.same("just below", Check.worked("a+b", MAX - 1, 1), MAX);
        Check.same("just above", Check.worked("a+b", MAX, 1), MIN);
        Check.same("just above", Check.worked("a-b", MIN + 1, 1), MIN);
        Check.same("just below", Check.worked("a-b", MIN, 1), MAX);
        Check.same("46340 by 46340", Check.worked("46340*46340", 0, 0), 2147395600);
        Check.same("46341 by 46341", Check.worked("46341*46341", 0, 0), -2147479015);
    }

    private static void comparisonsGive1Or0() {
        Check.same("1 and 1", Check.worked("(a<b)+(a=a)", MIN, MAX), 2);
        Check.same("0 and 0", Check.worked("(a=b)+(a<a)", MIN, MAX), 0);
        Check.same("far apart", Check.worked("a<b", MIN, 1), 1);
        Check.same("far apart", Check.worked("a<b", MAX, -1), 0);
        Check.same("next", Check.worked("a<b", MAX - 1, MAX), 1);
        Check.same("the same", Check.worked("a<b", MAX, MAX), 0);
        Check.same("the low bits alone", Check.worked("a=b", 65536, 0), 0);
    }

    private static void workedFromTheLeft() {
        Check.same("no sign goes first", Check.worked("2+3*4", 0, 0), 20);
        Check.same("no sign goes first", Check.worked("2*3-4*5", 0, 0), 10);
        Check.same("from the left", Check.worked("9-4-3", 0, 0), 2);
        Check.same("but for brackets", Check.worked("9-(4-3)", 0, 0), 8);
        Check.same("get takes its T alone", Check.worked("get 1+7", 0, 0), 7);
        Check.same("outside takes its T alone", Check.worked("outside 1*5+7", 0, 0), 7);
        Check.same("sums ahead of <", Check.worked("1+2<2+2", 0, 0), 1);
        Check.same("sums ahead of =", Check.worked("1+2=2+1", 0, 0), 1);
    }

    private static void bothSidesAreWorked() {
        ReplayHouse x = new ReplayHouse();
        Check.set(x, 0, 0, "say 0*(get 3+outside 1+id);say (0<1)+(id=get 4);say id;");
        x.ask(0, 0, 0, 0);
        Check.same("reads", x.touched(0, 0, 0), 8 + 16);
        Check.same("calls", x.calls(0), 1);
        Check.same("ids", x.field(0, 0, 2), 3);
        Check.same("the left one first", Check.worked("id-id", 0, 0), -1);
        Check.same("the left one first", Check.worked("id<id", 0, 0), 1);
        Check.same("the left one first", Check.worked("id*100-(id*10-id)", 0, 0), 83);
    }

    private static void keysByThreeBits() {
        for (int value : EDGES) {
            ReplayHouse x = new ReplayHouse();
            Check.set(x, 0, 0, "put a 1000;");
            Check.set(x, 1, 0, "say get a;");
            for (int key = 0; key < 8; key++) {
                x.begin(key, 10 + key);
            }
            x.ask(0, value, 0, 0);
            Check.same("put " + value, x.touched(0, 0, 1), 1 << (value & 7));
            Check.same("get " + value, x.field(1, 0, 0), 10 + (value & 7));
            Check.same("got " + value, x.touched(1, 0, 0), 1 << (value & 7));
            for (int key = 0; key < 8; key++) {
                Check.same("put " + value + ": " + key, x.end(0, key), key == (value & 7) ? 1000 : 10 + key);
            }
        }
    }

    private static void argumentsByFourBits() {
        ReplayHouse x = new ReplayHouse();
        Check.set(x, 0, 0, "say outside a;");
        for (int i = 0; i < 30; i++) {
            x.ask(0, EDGES[i], 0, 0);
            Check.same("0 at first", x.field(0, i, 0), 0);
        }
        x.keep(15, 150);
        x.keep(0, 100);
        x.keep(7, 70);
        for (int i = 0; i < 30; i++) {
            int low = EDGES[i] & 15;
            Check.same("outside " + EDGES[i], x.field(0, i, 0), low == 15 ? 150 : low == 0 ? 100 : low == 7 ? 70 : 0);
        }
        x.keep(15, MIN);
        Check.same("outside " + MAX, Check.worked("outside a", MAX, 0), 0);
        Check.same("outside -1", x.field(0, 10, 0), MIN);
    }

    private static void eachKeyAndArgumentIsItsOwn() {
        ReplayHouse x = new ReplayHouse();
        Check.set(x, 0, 0, "say get a;say outside a;");
        for (int i = 0; i < 16; i++) {
            x.ask(0, i, 0, 0);
            x.keep(i, 500 + i);
            if (i < 8) {
                x.begin(i, 300 + i);
            }
        }
        for (int i = 0; i < 16; i++) {
            Check.same("get " + i, x.field(0, i, 0), 300 + i % 8);
            Check.same("outside " + i, x.field(0, i, 1), 500 + i);
            Check.same("reads " + i, x.touched(0, i, 0), 1 << i % 8);
        }
        Check.same("calls", x.calls(0), 16);
    }

    private static void eightFields() {
        for (int says = 0; says <= 30; says++) {
            ReplayHouse x = new ReplayHouse();
            Check.set(x, 0, 0, "say id+9;".repeat(says));
            x.ask(0, 0, 0, 0);
            Check.same(says + " said", x.fields(0, 0), Math.min(8, says));
            for (int field = -1; field <= 9; field++) {
                boolean has = field >= 0 && field < 8 && field < says;
                Check.same(says + " said: " + field, x.field(0, 0, field), has ? field + 10 : 0);
            }
            Check.same("all are done", x.touched(0, 0, 2), says);
            Check.same("none is left", x.never(0, 0), 0);
        }
        ReplayHouse x = new ReplayHouse();
        Check.set(x, 0, 0, "say 1;".repeat(8) + "say get 5+outside 3+id;put 1 id;");
        x.ask(0, 0, 0, 0);
        Check.same("the ninth gets", x.touched(0, 0, 0), 32);
        Check.same("the ninth calls", x.calls(0), 1);
        Check.same("the ninth takes an id", x.end(0, 1), 2);
    }

    private static void whenNotZero() {
        for (int value : EDGES) {
            ReplayHouse x = new ReplayHouse();
            Check.set(x, 0, 0, "when a (say 5;) say 6;");
            x.ask(0, value, 0, 0);
            Check.same("when " + value, x.fields(0, 0), value != 0 ? 2 : 1);
            Check.same("the first " + value, x.field(0, 0, 0), value != 0 ? 5 : 6);
            Check.same("done " + value, x.touched(0, 0, 2), value != 0 ? 3 : 2);
            Check.same("never " + value, x.never(0, 0), value != 0 ? 0 : 1);
        }
        ReplayHouse x = new ReplayHouse();
        Check.set(x, 0, 0, "when a-a (put 1 get 1;say outside 2;say id;) when 0=get 3 () say id;");
        x.ask(0, 0, 0, 0);
        Check.same("what is not done gets nothing", x.touched(0, 0, 0), 8);
        Check.same("puts nothing", x.touched(0, 0, 1), 0);
        Check.same("calls nothing", x.calls(0), 0);
        Check.same("takes no id", x.field(0, 0, 0), 1);
        Check.same("all six whens", worked6(1), 7);
        Check.same("five of them", worked6(0), 6);
    }

    private static int worked6(int last) {
        ReplayHouse x = new ReplayHouse();
        Check.set(x, 0, 0, "when 1(".repeat(5) + "when a(say 1;)" + ")".repeat(5));
        x.ask(0, last, 0, 0);
        Check.same("said", x.fields(0, 0), last);
        return x.touched(0, 0, 2);
    }

    private static void idsFromOneOn() {
        ReplayHouse x = new ReplayHouse();
        Check.tellBoth(x, 0, "say id;");
        for (int i = 0; i < 30; i++) {
            x.ask(0, 0, 0, 0);
        }
        for (int i = 0; i < 30; i++) {
            Check.same("id of version 0", x.field(0, i, 0), i + 1);
            Check.same("id of version 1", x.field(1, i, 0), i + 1);
        }
        x.learn();
        Check.same("learning leaves them", x.field(0, 29, 0), 30);
    }

    private static void putIsWorkedInOrder() {
        ReplayHouse x = new ReplayHouse();
        Check.set(x, 0, 0, "put id*0+5 id; put 6 get 6+1; put get 6 get 6+1;");
        x.ask(0, 0, 0, 0);
        Check.same("the second one's id", x.end(0, 5), 2);
        Check.same("what it was, and one", x.end(0, 6), 1);
        Check.same("the key it had", x.end(0, 1), 2);
    }

    /** Each of twelve that are open holds two values back, at most, beside put's first and the E around them. */
    private static void mostIsHeldBack() {
        for (String sign : new String[] {"<", "="}) {
            int due = 5;
            for (int i = 0; i < 12; i++) {
                int right = 2 + due;
                due = sign.equals("<") ? 1 < right ? 1 : 0 : 1 == right ? 1 : 0;
            }
            String deep = ("(1" + sign + "2+").repeat(12) + "a" + ")".repeat(12);
            Check.same(deep, Check.worked(deep, 5, 0), due);
            Check.same("in a sum", Check.worked("70*" + deep, 5, 0), 70 * due);
            Check.same("behind a sign", Check.worked("70" + sign + "3-" + deep, 5, 0), 0);
            ReplayHouse x = new ReplayHouse();
            Check.set(x, 0, 0, "put 3 9-" + deep + ";");
            x.ask(0, 5, 0, 0);
            Check.same("put " + deep, x.end(0, 3), 9 - due);
        }
        String gets = "get(1-".repeat(6) + "a" + ")".repeat(6);
        ReplayHouse x = new ReplayHouse();
        Check.set(x, 0, 0, "say 5*" + gets + ";");
        for (int key = 0; key < 8; key++) {
            x.begin(key, key + 3);
        }
        int due = 0;
        for (int i = 0; i < 6; i++) {
            due = (1 - due & 7) + 3;
        }
        x.ask(0, 0, 0, 0);
        Check.same(gets, x.field(0, 0, 0), 5 * due);
    }
}
