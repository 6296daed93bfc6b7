import java.lang.reflect.InvocationTargetException;
import java.lang.reflect.Method;
import java.lang.reflect.Modifier;
import java.util.ArrayList;
import java.util.Arrays;
import java.util.List;
import java.util.NoSuchElementException;

/**
 * The boundaries of every call of the face at once: each is made with all the edges of its numbers, in a new house, in
 * one with some asks and in a full one, and held against the model. It also tests the 512th call, calls that are
 * refused, and which exception comes if two could.
 */
public final class BoundsOfCallsTest {
    private static final int MIN = Integer.MIN_VALUE;
    private static final int MAX = Integer.MAX_VALUE;
    private static final int[] EDGES = {MIN, -2, -1, 0, 1, 2, 3, 4, 7, 8, 15, 16, 29, 30, 400, 401, 1000, 1001, MAX};
    private static final int[] TICKS = {MIN, -1, 0, 1, 99999, 100000, 100001, MAX};
    private static final int MOST_CALLS = 512;

    private ReplayHouse house;
    private Model model;
    private int made;
    private final int fullness;

    private BoundsOfCallsTest(int fullness) {
        this.fullness = fullness;
        renew();
    }

    public static void main(String[] args) throws ReflectiveOperationException {
        for (int fullness = 0; fullness < 3; fullness++) {
            new BoundsOfCallsTest(fullness).allCalls();
        }
        neverThrows();
        the512thCall();
        refusedCallsLeaveAll();
        theFirstOfTwoExceptions();
        Check.close("BoundsOfCallsTest");
    }

    /** A house and a model alike: new, with three asks, or with all that it can hold. */
    private void renew() {
        house = new ReplayHouse();
        model = new Model();
        made = 0;
        int asks = fullness == 2 ? 30 : 3 * fullness;
        if (fullness > 0) {
            tell(0, 0, "say get a;put a b;say id;");
            tell(1, 0, "say get a;put a b+1;say id;");
            tell(0, 3, "say outside a;when b (say 1;)");
            tell(1, 3, "say outside b;");
        }
        for (int i = 0; i < asks; i++) {
            house.ask(i % 2 * 3, i % 5, i, 100 - i % 7);
            model.ask(i % 2 * 3, i % 5, i, 100 - i % 7);
            made++;
        }
        for (int i = 0; i < (fullness == 2 ? 20 : fullness); i++) {
            house.feed(0x20202020, 0x20202020, 0x20202020, 0x20202020, 0x20202020);
            model.feed(0x20202020, 0x20202020, 0x20202020, 0x20202020, 0x20202020);
            made++;
        }
    }

    private void tell(int version, int kind, String text) {
        for (int from = 0; from < text.length(); from += 20) {
            int[] five = new int[5];
            for (int i = 0; i < 20; i++) {
                five[i / 4] = five[i / 4] << 8 | (from + i < text.length() ? text.charAt(from + i) : 0);
            }
            house.feed(five[0], five[1], five[2], five[3], five[4]);
            model.feed(five);
            made++;
        }
        Check.same(text, house.text(version, kind, text.length()), model.text(version, kind, text.length()));
        made++;
    }

    private void allCalls() throws ReflectiveOperationException {
        for (Method call : ReplayHouse.class.getDeclaredMethods()) {
            if (!Modifier.isPublic(call.getModifiers()) || call.getName().equals("feed")) {
                continue;
            }
            renew();
            Method ofModel = Model.class.getDeclaredMethod(call.getName(), call.getParameterTypes());
            eachWith(call, ofModel, new ArrayList<>());
        }
    }

    private void eachWith(Method call, Method ofModel, List<Object> chosen) throws ReflectiveOperationException {
        if (chosen.size() == call.getParameterCount()) {
            compare(call, ofModel, chosen.toArray());
            return;
        }
        for (Object value : choices(call, chosen.size())) {
            chosen.add(value);
            eachWith(call, ofModel, chosen);
            chosen.remove(chosen.size() - 1);
        }
    }

    private static List<Object> choices(Method call, int place) {
        if (call.getParameterTypes()[place] == boolean.class) {
            return List.of(true, false);
        }
        int[] edges = EDGES;
        if (call.getName().equals("ask")) {
            edges = place == 0 ? EDGES : place == 3 ? TICKS : new int[] {place};
        }
        return new ArrayList<>(Arrays.stream(edges).boxed().toList());
    }

    private void compare(Method call, Method ofModel, Object[] values) throws ReflectiveOperationException {
        // text empties the tape, and its n must be tried on one that has bytes.
        if (made + 6 > MOST_CALLS || call.getName().equals("text")) {
            renew();
        }
        String got = outcome(call, house, values);
        String due = outcome(ofModel, model, values);
        made++;
        String told = call.getName() + Arrays.toString(values) + " answered " + got + ", due is " + due;
        Check.same(told, got.equals(due), true);
        boolean named = !got.endsWith("Exception")
                || Arrays.stream(call.getExceptionTypes()).anyMatch(type -> type.getSimpleName().equals(got));
        Check.same(told + ": the face names it", named, true);
        for (int what = 0; what < 4; what++) {
            Check.same(told + ": count " + what + " behind it", house.count(what), model.count(what));
            made++;
        }
    }

    private static String outcome(Method call, Object on, Object[] values) throws ReflectiveOperationException {
        try {
            return call.invoke(on, values).toString();
        } catch (InvocationTargetException e) {
            return e.getCause().getClass().getSimpleName();
        }
    }

    /** The calls for which the face names no exception. */
    private static void neverThrows() {
        for (int value : EDGES) {
            ReplayHouse x = new ReplayHouse();
            Check.same("feed " + value, x.feed(value, value, value, value, value), 20);
            Check.same("count " + value, x.count(value) >= -1, true);
            Check.same("learn", x.learn(), 0);
            Check.same("shapes", x.shapes(), 0);
        }
    }

    /** All of 512 calls on one object answer what is due; the calls behind them may answer what they like. */
    private static void the512thCall() {
        ReplayHouse x = new ReplayHouse();
        x.feed(0x73617920, 0x67657420, 0x613b0000, 0, 0);
        int calls = 1;
        Check.same("say get a;", x.text(0, 0, 10), 1);
        calls++;
        for (int i = 0; i < 30; i++) {
            Check.same("ask " + i, x.ask(0, i, 0, i), i);
            calls++;
        }
        for (int i = 0; calls < MOST_CALLS - 3; i++) {
            Check.same("begin", x.begin(i % 8, i), Math.max(0, i - 8));
            Check.same("field", x.field(0, i % 8, 0), i);
            calls += 2;
        }
        Check.same("small", x.small(29), 0);
        Check.same("learn", x.learn(), 0);
        calls += 2;
        while (calls < MOST_CALLS) {
            Check.same("the 512th", x.differs(29), 0);
            calls++;
        }
        ReplayHouse y = new ReplayHouse();
        for (int i = 0; i < MOST_CALLS; i++) {
            Check.same("text " + i, y.text(i % 2, i % 4, 0), 0);
        }
        for (int i = 0; i < MOST_CALLS; i++) {
            y.feed(i, i, i, i, i);
            y.text(0, 0, y.count(2));
        }
    }

    private static ReplayHouse lived() {
        ReplayHouse x = new ReplayHouse();
        Check.set(x, 0, 0, "say get a;put a b;say id;");
        Check.set(x, 1, 0, "say get a;put a b+1;say id;when b (say 2;)");
        x.begin(1, 5);
        x.keep(2, 6);
        x.ask(0, 1, 2, 3);
        x.ask(0, 9, 2, 2);
        x.ask(0, 1, 0, 4);
        x.caused(2, 0, 0);
        x.noise(0, 1, true);
        x.feed(0x73617920, 0x313b2020, 0x20202020, 0x20202020, 0x20202020);
        return x;
    }

    /** Every call that is refused, then all that can be looked at: nothing of it may have changed. */
    private static void refusedCallsLeaveAll() {
        ReplayHouse x = lived();
        String before = looks(lived());
        Runnable[] refused = {
            () -> x.text(2, 0, 6), () -> x.text(0, 4, 6), () -> x.text(0, 0, 21), () -> x.text(0, 0, -1),
            () -> x.begin(8, 1), () -> x.begin(-1, 1), () -> x.keep(16, 1), () -> x.keep(-1, 1),
            () -> x.ask(4, 0, 0, 0), () -> x.ask(-1, 0, 0, 0), () -> x.ask(0, 0, 0, 100001), () -> x.ask(0, 0, 0, -1),
            () -> x.caused(3, 0, 0), () -> x.caused(2, 3, 0), () -> x.caused(2, 2, 0), () -> x.caused(0, 1, 0),
            () -> x.caused(2, 1, 8), () -> x.caused(2, -1, 8), () -> x.caused(2, -2, 0),
            () -> x.noise(4, 0, true), () -> x.noise(0, 8, true), () -> x.noise(-1, 1, false),
            () -> x.noise(0, -1, false), () -> x.fields(2, 0), () -> x.fields(0, 3), () -> x.field(2, 0, 0),
            () -> x.field(0, 3, 0), () -> x.end(0, 8), () -> x.end(2, 0), () -> x.touched(0, 0, 3),
            () -> x.touched(2, 0, 0), () -> x.touched(0, 3, 0), () -> x.calls(2), () -> x.never(2, 0),
            () -> x.never(0, 4), () -> x.differs(3), () -> x.shape(0, 4), () -> x.touch(0, 3), () -> x.touch(3, 0),
            () -> x.free(3), () -> x.small(3), () -> x.smallest(3, 0), () -> x.lag(2, 1, 1), () -> x.lag(0, 0, 1),
            () -> x.lag(0, 1, 1001)
        };
        for (int i = 0; i < refused.length; i++) {
            boolean threw = false;
            try {
                refused[i].run();
            } catch (IllegalArgumentException | IndexOutOfBoundsException | NoSuchElementException e) {
                threw = true;
            }
            Check.same("refused " + i, threw, true);
        }
        String after = looks(x);
        Check.same("behind refused calls\n  " + after + "\n  is not\n  " + before, after.equals(before), true);
    }

    /** All that can be looked at, in less than 512 calls; what only a change tells is changed last. */
    private static String looks(ReplayHouse x) {
        StringBuilder all = new StringBuilder();
        for (int what = 0; what < 4; what++) {
            all.append(x.count(what)).append(' ');
        }
        for (int version = 0; version < 2; version++) {
            for (int i = 0; i < 8; i++) {
                all.append(x.end(version, i)).append(' ').append(i < 4 ? x.never(version, i) : 0).append(' ');
            }
            for (int ask = 0; ask < 3; ask++) {
                for (int i = 0; i < 5; i++) {
                    all.append(x.field(version, ask, i)).append(' ').append(x.touched(version, ask, i % 3)).append(' ');
                }
                all.append(x.differs(ask)).append(' ').append(x.small(ask)).append(' ').append(x.smallest(ask, 0));
                all.append(' ').append(x.free(ask)).append(' ').append(x.touch(ask, 2)).append(' ');
            }
            all.append(x.calls(version)).append(' ').append(x.lag(version, 1, 7)).append(' ');
        }
        for (int i = 0; i < 16; i++) {
            all.append(x.shape(i / 4, i % 4)).append(' ').append(x.keep(i, 0)).append(' ');
            all.append(x.begin(i % 8, 0)).append(' ');
        }
        for (int i = 0; i < 32; i++) {
            all.append(x.noise(i / 8, i % 8, false) ? 1 : 0);
        }
        return all.append(' ').append(x.text(0, 1, 6)).toString();
    }

    /** The document does not say which comes first; the order in which the face names them is kept. */
    private static void theFirstOfTwoExceptions() {
        ReplayHouse x = new ReplayHouse();
        x.ask(0, 0, 0, 0);
        Check.fails("ask and version", NoSuchElementException.class, () -> x.fields(2, 1));
        Check.fails("ask and version", NoSuchElementException.class, () -> x.field(-1, 1, 0));
        Check.fails("ask, version and what", NoSuchElementException.class, () -> x.touched(2, 1, 3));
        Check.fails("key and version", IndexOutOfBoundsException.class, () -> x.end(2, 8));
        Check.fails("ask and field", NoSuchElementException.class, () -> x.caused(1, 0, 8));
        Check.fails("cause and field", NoSuchElementException.class, () -> x.caused(0, 1, 8));
    }
}
