import java.util.NoSuchElementException;

/** The boundaries of promises 4 to 7 and of "Terms", part 2, for asks, their ticks and their causes. */
public final class BoundsOfAsksTest {
    private static final int MIN = Integer.MIN_VALUE;
    private static final int MAX = Integer.MAX_VALUE;
    private static final Class<NoSuchElementException> NO_ASK = NoSuchElementException.class;
    private static final Class<IllegalArgumentException> WRONG = IllegalArgumentException.class;
    private static final Class<IndexOutOfBoundsException> NO_PLACE = IndexOutOfBoundsException.class;

    public static void main(String[] args) {
        keysFrom0To7();
        argumentsFrom0To15();
        thirtyAsks();
        the31stLeavesAll();
        kindsFrom0To3();
        ticksFrom0To100000();
        numbersOfAllSizes();
        doneByTickThenByNumber();
        causesAreLower();
        causesAreThere();
        causeFieldsFrom0To7();
        causedByNone();
        refusedCausesLeaveTheFormer();
        aFieldThatIsNotThere();
        causesDoneAhead();
        causesOfTheSameRun();
        Check.close("BoundsOfAsksTest");
    }

    private static void keysFrom0To7() {
        ReplayHouse x = new ReplayHouse();
        for (int key = 0; key < 8; key++) {
            Check.same("0 at first", x.begin(key, MIN + key), 0);
            Check.same("what it was", x.begin(key, MAX - key), MIN + key);
            Check.same("the end of none", x.end(0, key), MAX - key);
        }
        for (int key : new int[] {-1, 8, -8, 15, 16, MIN, MAX}) {
            Check.fails("begin " + key, NO_PLACE, () -> x.begin(key, 5));
            Check.fails("end " + key, NO_PLACE, () -> x.end(0, key));
            Check.fails("end " + key, NO_PLACE, () -> x.end(1, key));
        }
        for (int key = 0; key < 8; key++) {
            Check.same("they stay", x.begin(key, 0), MAX - key);
            Check.same("and are 0 again", x.end(1, key), 0);
        }
    }

    private static void argumentsFrom0To15() {
        ReplayHouse x = new ReplayHouse();
        for (int argument = 0; argument < 16; argument++) {
            Check.same("0 at first", x.keep(argument, MIN + argument), 0);
            Check.same("what it was", x.keep(argument, MAX - argument), MIN + argument);
        }
        for (int argument : new int[] {-1, 16, -16, 31, 32, MIN, MAX}) {
            Check.fails("keep " + argument, NO_PLACE, () -> x.keep(argument, 5));
        }
        for (int argument = 0; argument < 16; argument++) {
            Check.same("they stay", x.keep(argument, 0), MAX - argument);
        }
    }

    private static void thirtyAsks() {
        ReplayHouse x = new ReplayHouse();
        for (int i = 0; i < 30; i++) {
            Check.same("so many", x.count(0), i);
            int next = i;
            Check.fails("not yet " + i, NO_ASK, () -> x.fields(0, next));
            Check.same("ask " + i, x.ask(i % 4, 0, 0, 0), i);
            Check.same("there " + i, x.fields(0, i), 0);
        }
        for (int i = 0; i < 3; i++) {
            Check.same("there are 30", x.ask(0, 0, 0, 0), -1);
            Check.same("30", x.count(0), 30);
            Check.fails("no ask 30", NO_ASK, () -> x.fields(0, 30));
        }
    }

    private static void the31stLeavesAll() {
        ReplayHouse x = new ReplayHouse();
        Check.tellBoth(x, 0, "say get 0;put 0 get 0*3+a;");
        for (int i = 0; i < 30; i++) {
            x.ask(0, i, 0, 30 - i);
        }
        int end = x.end(0, 0);
        int lag = x.lag(0, 1, 100);
        Check.same("the 31st", x.ask(0, 77, 0, 0), -1);
        Check.fails("a wrong 31st", WRONG, () -> x.ask(4, 0, 0, 0));
        Check.fails("a wrong 31st", WRONG, () -> x.ask(0, 0, 0, 100001));
        Check.same("the same end", x.end(0, 0), end);
        Check.same("the same lag", x.lag(0, 1, 100), lag);
        Check.same("the first done", x.field(0, 29, 0), 0);
        Check.same("the next done", x.field(0, 28, 0), 29);
    }

    private static void kindsFrom0To3() {
        ReplayHouse x = new ReplayHouse();
        for (int kind = 0; kind < 4; kind++) {
            Check.set(x, 0, kind, "say " + (kind + 1) + "00;");
        }
        for (int kind : new int[] {-1, 4, -4, 7, 8, MIN, MAX}) {
            Check.fails("kind " + kind, WRONG, () -> x.ask(kind, 0, 0, 0));
            Check.same("no ask", x.count(0), 0);
        }
        for (int kind = 0; kind < 4; kind++) {
            Check.same("ask " + kind, x.ask(kind, 0, 0, 0), kind);
            Check.same("of its kind " + kind, x.field(0, kind, 0), 100 * kind + 100);
        }
    }

    private static void ticksFrom0To100000() {
        ReplayHouse x = new ReplayHouse();
        for (int tick : new int[] {-1, 100001, -100000, 200000, MIN, MAX}) {
            Check.fails("tick " + tick, WRONG, () -> x.ask(0, 0, 0, tick));
            Check.fails("tick " + tick + " of kind 4", WRONG, () -> x.ask(4, 0, 0, tick));
            Check.same("no ask", x.count(0), 0);
        }
        Check.same("the last tick", x.ask(0, 0, 0, 100000), 0);
        Check.same("the first tick", x.ask(0, 0, 0, 0), 1);
        Check.same("one behind the first", x.ask(0, 0, 0, 1), 2);
        Check.same("one ahead of the last", x.ask(0, 0, 0, 99999), 3);
    }

    private static void numbersOfAllSizes() {
        ReplayHouse x = new ReplayHouse();
        Check.set(x, 0, 0, "say a;say b;");
        int[] numbers = {MIN, MIN + 1, -1, 0, 1, MAX - 1, MAX};
        for (int i = 0; i < numbers.length; i++) {
            x.ask(0, numbers[i], numbers[numbers.length - 1 - i], 0);
            Check.same("a", x.field(0, i, 0), numbers[i]);
            Check.same("b", x.field(0, i, 1), numbers[numbers.length - 1 - i]);
        }
    }

    private static void doneByTickThenByNumber() {
        int[] ticks = {100000, 0, 1, 0, 99999, 100000, 1, 0};
        int[] order = {1, 3, 7, 2, 6, 4, 0, 5};
        ReplayHouse x = new ReplayHouse();
        Check.tellBoth(x, 0, "put 0 get 0+1;say get 0;");
        for (int tick : ticks) {
            x.ask(0, 0, 0, tick);
        }
        for (int i = 0; i < order.length; i++) {
            Check.same("done " + i, x.field(0, order[i], 0), i + 1);
            Check.same("done in version 1 " + i, x.field(1, order[i], 0), i + 1);
        }
        ReplayHouse y = new ReplayHouse();
        Check.set(y, 0, 0, "put 0 get 0+1;say get 0;");
        for (int i = 0; i < 30; i++) {
            y.ask(0, 0, 0, 29 - i);
        }
        for (int i = 0; i < 30; i++) {
            Check.same("30 the other way round " + i, y.field(0, i, 0), 30 - i);
        }
    }

    private static ReplayHouse withAsks(int asks) {
        ReplayHouse x = new ReplayHouse();
        Check.tellBoth(x, 0, "say a;say a+1;");
        for (int i = 0; i < asks; i++) {
            x.ask(0, 10 * i, 0, i);
        }
        return x;
    }

    private static void causesAreLower() {
        ReplayHouse x = withAsks(30);
        for (int ask : new int[] {0, 1, 15, 29}) {
            for (int by : new int[] {0, ask - 1, ask, ask + 1, 29}) {
                if (by < 0 || by > 29) {
                    continue;
                }
                if (by < ask) {
                    Check.same(ask + " by " + by, x.caused(ask, by, 1), 1);
                } else {
                    Check.fails(ask + " by " + by, WRONG, () -> x.caused(ask, by, 1));
                }
            }
        }
    }

    private static void causesAreThere() {
        ReplayHouse x = withAsks(3);
        for (int ask : new int[] {3, 4, 29, 30, -1, -2, MIN, MAX}) {
            Check.fails("ask " + ask, NO_ASK, () -> x.caused(ask, 0, 0));
            Check.fails("ask " + ask + " by none", NO_ASK, () -> x.caused(ask, -1, 0));
            Check.fails("ask " + ask + ", no field", NO_ASK, () -> x.caused(ask, 0, 8));
            Check.fails("ask " + ask + " by itself", NO_ASK, () -> x.caused(ask, ask, 0));
            if (ask != -1) {
                Check.fails("by " + ask, NO_ASK, () -> x.caused(2, ask, 0));
                Check.fails("by " + ask + ", no field", NO_ASK, () -> x.caused(2, ask, -1));
            }
        }
        Check.same("by the lowest", x.caused(2, 0, 0), 1);
        Check.fails("in an empty house", NO_ASK, () -> new ReplayHouse().caused(0, -1, 0));
    }

    private static void causeFieldsFrom0To7() {
        ReplayHouse x = withAsks(2);
        for (int field = 0; field < 8; field++) {
            Check.same("field " + field, x.caused(1, 0, field), 1);
            Check.same("field " + field + " of none", x.caused(1, -1, field), 1);
        }
        for (int field : new int[] {-1, 8, -8, 15, MIN, MAX}) {
            Check.fails("field " + field, WRONG, () -> x.caused(1, 0, field));
            Check.fails("field " + field + " of none", WRONG, () -> x.caused(1, -1, field));
            Check.fails("field " + field + " of none for ask 0", WRONG, () -> x.caused(0, -1, field));
        }
    }

    private static void causedByNone() {
        ReplayHouse x = withAsks(2);
        Check.same("ask 0 by none", x.caused(0, -1, 7), 1);
        Check.same("as told", x.field(0, 1, 0), 10);
        Check.same("by ask 0", x.caused(1, 0, 1), 1);
        Check.same("by its field", x.field(0, 1, 0), 1);
        Check.same("by none any more", x.caused(1, ReplayHouse.NONE, 1), 1);
        Check.same("as told again", x.field(0, 1, 0), 10);
        Check.same("no touch", x.touch(0, 1), false);
        Check.same("by none twice", x.caused(1, -1, 0), 1);
    }

    private static void refusedCausesLeaveTheFormer() {
        ReplayHouse x = withAsks(3);
        x.caused(2, 0, 1);
        Check.fails("by a higher one", WRONG, () -> x.caused(1, 2, 0));
        Check.fails("by itself", WRONG, () -> x.caused(2, 2, 0));
        Check.fails("field 8", WRONG, () -> x.caused(2, 1, 8));
        Check.fails("field 8 of none", WRONG, () -> x.caused(2, -1, 8));
        Check.fails("by 3", NO_ASK, () -> x.caused(2, 3, 0));
        Check.same("still by ask 0", x.field(0, 2, 0), 1);
        Check.same("touches 0", x.touch(0, 2), true);
        Check.same("not 1", x.touch(1, 2), false);
    }

    /** Causes with 0 to 9 said, and each of the 8 fields: it is there or it is not. */
    private static void aFieldThatIsNotThere() {
        for (int says = 0; says <= 9; says++) {
            ReplayHouse x = new ReplayHouse();
            Check.set(x, 0, 0, "say id;".repeat(says));
            Check.set(x, 0, 1, "say a;");
            x.ask(0, 0, 0, 0);
            x.ask(1, -5, 0, 0);
            for (int field = 0; field < 8; field++) {
                x.caused(1, 0, field);
                Check.same(says + " said, field " + field, x.field(0, 1, 0), field < says ? field + 1 : -5);
            }
        }
    }

    private static void causesDoneAhead() {
        for (int tick = 4; tick <= 6; tick++) {
            ReplayHouse x = new ReplayHouse();
            Check.set(x, 0, 0, "say a+1;");
            x.ask(0, 10, 0, 5);
            x.ask(0, 20, 0, tick);
            x.caused(1, 0, 0);
            Check.same("caused at 5, done at " + tick, x.field(0, 1, 0), tick < 5 ? 21 : 12);
            Check.same("they touch all the same", x.touch(0, 1), true);
        }
        for (int cause = 0; cause < 29; cause++) {
            ReplayHouse x = new ReplayHouse();
            Check.set(x, 0, 0, "say a+1;");
            for (int i = 0; i < 30; i++) {
                x.ask(0, 10 * i, 0, i == cause ? 50 : i == 29 ? 49 : i);
            }
            x.caused(29, cause, 0);
            for (int round = 0; round < 3; round++) {
                Check.same("its cause " + cause + " is done behind it", x.field(0, 29, 0), 291);
                x.keep(0, round);
            }
        }
        ReplayHouse x = withAsks(30);
        for (int i = 1; i < 30; i++) {
            x.caused(i, i - 1, 1);
        }
        Check.same("a chain of 30", x.field(0, 29, 1), 30);
    }

    private static void causesOfTheSameRun() {
        ReplayHouse x = new ReplayHouse();
        Check.set(x, 0, 0, "say 5;say id;");
        Check.set(x, 1, 0, "say 6;");
        Check.tellBoth(x, 1, "say a;");
        x.ask(0, 0, 0, 0);
        x.ask(1, 9, 0, 0);
        x.caused(1, 0, 0);
        Check.same("version 0's", x.field(0, 1, 0), 5);
        Check.same("version 1's", x.field(1, 1, 0), 6);
        x.caused(1, 0, 1);
        Check.same("version 0 has it", x.field(0, 1, 0), 1);
        Check.same("version 1 has not", x.field(1, 1, 0), 9);
        Check.same("learnt through the cause", x.learn(), 2);
        Check.same("the cause's field 1", x.noise(0, 1, true), true);
        Check.same("the caused one's field 0", x.noise(1, 0, true), true);
    }
}
