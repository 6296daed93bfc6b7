import java.util.NoSuchElementException;

/** Promises 4 to 7: begin, keep, ask, caused. */
public final class AsksTest {
    public static void main(String[] args) {
        begins();
        keeps();
        asks();
        causes();
        causesOfLaterOnes();
        wrongCauses();
        Check.close("AsksTest");
    }

    private static void begins() {
        ReplayHouse x = new ReplayHouse();
        Check.tellBoth(x, 0, "say get a;");
        for (int key = 0; key < 8; key++) {
            Check.same("begin " + key, x.begin(key, key * 11 - 5), 0);
            Check.same("begin again " + key, x.begin(key, key * 11), key * 11 - 5);
            Check.same("end " + key, x.end(1, key), key * 11);
            x.ask(0, key - 8, 0, 0);
            Check.same("get " + key, x.field(0, key, 0), key * 11);
        }
        Check.fails("key -1", IndexOutOfBoundsException.class, () -> x.begin(-1, 0));
        Check.fails("key 8", IndexOutOfBoundsException.class, () -> x.begin(8, 0));
    }

    private static void keeps() {
        ReplayHouse x = new ReplayHouse();
        Check.tellBoth(x, 0, "say outside a;");
        for (int argument = 0; argument < 16; argument++) {
            Check.same("keep " + argument, x.keep(argument, argument - 30), 0);
            Check.same("keep again " + argument, x.keep(argument, argument * 7), argument - 30);
            x.ask(0, argument + 16 * argument, 0, 0);
            Check.same("outside " + argument, x.field(1, argument, 0), argument * 7);
        }
        Check.fails("argument -1", IndexOutOfBoundsException.class, () -> x.keep(-1, 0));
        Check.fails("argument 16", IndexOutOfBoundsException.class, () -> x.keep(16, 0));
    }

    private static void asks() {
        ReplayHouse x = new ReplayHouse();
        Check.fails("kind -1", IllegalArgumentException.class, () -> x.ask(-1, 0, 0, 0));
        Check.fails("kind 4", IllegalArgumentException.class, () -> x.ask(4, 0, 0, 0));
        Check.fails("tick -1", IllegalArgumentException.class, () -> x.ask(0, 0, 0, -1));
        Check.fails("tick 100001", IllegalArgumentException.class, () -> x.ask(0, 0, 0, 100001));
        Check.same("none yet", x.count(0), 0);
        for (int i = 0; i < 30; i++) {
            Check.same("ask " + i, x.ask(i & 3, i, -i, i == 0 ? 100000 : 0), i);
        }
        Check.same("a 31st", x.ask(0, 0, 0, 0), -1);
        Check.same("30 asks", x.count(0), 30);
        Check.fails("a 31st of kind 4", IllegalArgumentException.class, () -> x.ask(4, 0, 0, 0));
        Check.fails("a 31st at tick -1", IllegalArgumentException.class, () -> x.ask(0, 0, 0, -1));
    }

    private static void causes() {
        ReplayHouse x = new ReplayHouse();
        Check.tellBoth(x, 0, "say a;say a+100;");
        x.ask(0, 1, 0, 0);
        x.ask(0, 2, 0, 0);
        x.ask(0, 3, 0, 0);
        Check.same("as told", x.field(0, 2, 0), 3);
        Check.same("caused", x.caused(2, 1, 1), 1);
        Check.same("by 1's field 1", x.field(0, 2, 0), 102);
        Check.same("caused", x.caused(1, 0, 1), 1);
        Check.same("in a chain", x.field(1, 2, 1), 301);
        Check.same("by a field that is not there", x.caused(2, 1, 2), 1);
        Check.same("as told then", x.field(0, 2, 0), 3);
        Check.same("by another", x.caused(2, 0, 0), 1);
        Check.same("by 0's field 0", x.field(0, 2, 0), 1);
        Check.same("by none any more", x.caused(2, -1, 7), 1);
        Check.same("as told again", x.field(0, 2, 0), 3);
    }

    private static void causesOfLaterOnes() {
        ReplayHouse x = new ReplayHouse();
        Check.tellBoth(x, 0, "say a+1;");
        x.ask(0, 10, 0, 5);
        x.ask(0, 20, 0, 4);
        x.ask(0, 30, 0, 5);
        x.caused(1, 0, 0);
        x.caused(2, 0, 0);
        Check.same("done ahead of its cause", x.field(0, 1, 0), 21);
        Check.same("done behind its cause", x.field(0, 2, 0), 12);
        Check.same("done ahead of it all the same at the next look", x.field(0, 1, 0), 21);
        x.keep(0, 0);
        Check.same("and when it is run again", x.field(0, 1, 0), 21);
    }

    private static void wrongCauses() {
        ReplayHouse x = new ReplayHouse();
        x.ask(0, 0, 0, 0);
        x.ask(0, 0, 0, 0);
        Check.fails("ask 2", NoSuchElementException.class, () -> x.caused(2, 0, 0));
        Check.fails("ask -1", NoSuchElementException.class, () -> x.caused(-1, 0, 0));
        Check.fails("ask 2 by none", NoSuchElementException.class, () -> x.caused(2, -1, 0));
        Check.fails("by 2", NoSuchElementException.class, () -> x.caused(1, 2, 0));
        Check.fails("by -2", NoSuchElementException.class, () -> x.caused(1, -2, 0));
        Check.fails("by 2, field 8", NoSuchElementException.class, () -> x.caused(1, 2, 8));
        Check.fails("by itself", IllegalArgumentException.class, () -> x.caused(1, 1, 0));
        Check.fails("by a higher one", IllegalArgumentException.class, () -> x.caused(0, 1, 0));
        Check.fails("field 8", IllegalArgumentException.class, () -> x.caused(1, 0, 8));
        Check.fails("field -1", IllegalArgumentException.class, () -> x.caused(1, 0, -1));
        Check.fails("field 8 of none", IllegalArgumentException.class, () -> x.caused(1, -1, 8));
        Check.fails("field -1 of none", IllegalArgumentException.class, () -> x.caused(1, -1, -1));
        Check.same("nothing was caused", x.touch(0, 1), false);
        Check.same("field 7", x.caused(1, 0, 7), 1);
        Check.same("it touches", x.touch(0, 1), true);
    }
}
