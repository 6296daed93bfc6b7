import java.util.NoSuchElementException;

/** Promises 19 to 22: touch, free, small, smallest. */
public final class NeighboursTest {
    public static void main(String[] args) {
        touches();
        touchesByVersionZero();
        smallSets();
        theFirstOfTheFewest();
        lastTenAlone();
        leftOutCauses();
        causedByTheAskItself();
        noiseCounts();
        idsOfTrials();
        versionsOfTrials();
        firstCallsBehindAChange();
        wrongInputs();
        Check.close("NeighboursTest");
    }

    private static void touches() {
        ReplayHouse x = new ReplayHouse();
        Check.set(x, 0, 0, "put a 1;");
        Check.set(x, 0, 1, "say get a;");
        x.ask(0, 1, 0, 0);
        x.ask(0, 1, 0, 0);
        x.ask(0, 2, 0, 0);
        x.ask(1, 1, 0, 0);
        x.ask(1, 1, 0, 0);
        x.ask(1, 2, 0, 0);
        Check.same("writes and writes", x.touch(0, 1), true);
        Check.same("another key", x.touch(0, 2), false);
        Check.same("writes and reads", x.touch(0, 3), true);
        Check.same("reads and writes", x.touch(3, 0), true);
        Check.same("reads and reads", x.touch(3, 4), false);
        Check.same("reads another", x.touch(0, 5), false);
        Check.same("itself", x.touch(0, 0), false);
        int[] free = {2, 2, 4, 3, 3, 4};
        for (int ask = 0; ask < 6; ask++) {
            Check.same("free " + ask, x.free(ask), free[ask]);
        }
        x.caused(5, 2, 0);
        x.caused(4, 2, 0);
        Check.same("caused", x.touch(4, 2), true);
        Check.same("has caused", x.touch(2, 4), true);
        Check.same("by the same one", x.touch(4, 5), false);
        Check.same("free of fewer", x.free(2), 3);
        Check.same("free of fewer", x.free(4), 2);
    }

    private static void touchesByVersionZero() {
        ReplayHouse x = new ReplayHouse();
        Check.set(x, 1, 0, "put 1 1;");
        x.ask(0, 0, 0, 0);
        x.ask(0, 0, 0, 9);
        Check.same("version 1 alone", x.touch(0, 1), false);
        Check.same("free", x.free(0), 1);
        Check.set(x, 0, 0, "put 1 1;");
        Check.same("version 0", x.touch(0, 1), true);
        Check.same("not free", x.free(0), 0);
    }

    private static void smallIs(String what, ReplayHouse x, int ask, int... due) {
        Check.same(what + ": small", x.small(ask), due.length);
        for (int k = 0; k < due.length; k++) {
            Check.same(what + ": smallest " + k, x.smallest(ask, k), due[k]);
        }
        Check.same(what + ": no more", x.smallest(ask, due.length), -1);
        Check.same(what + ": none below", x.smallest(ask, -1), -1);
    }

    private static ReplayHouse counting(String other) {
        ReplayHouse x = new ReplayHouse();
        Check.tellBoth(x, 0, "put a get a+b;");
        Check.set(x, 0, 1, "say 0;");
        Check.set(x, 1, 1, "say " + other + ";");
        return x;
    }

    private static void smallSets() {
        ReplayHouse x = counting("5<get 0");
        x.ask(0, 0, 1, 0);
        x.ask(0, 0, 3, 1);
        x.ask(0, 1, 9, 2);
        x.ask(0, 0, 2, 3);
        x.ask(1, 0, 0, 4);
        x.ask(0, 0, 9, 5);
        smallIs("all three", x, 4, 0, 1, 3);
        Check.same("one that is not different", x.small(5), -1);
        Check.same("one that is not different", x.smallest(5, 0), -1);
        x.begin(0, 3);
        smallIs("one is enough", x, 4, 1);
        x.begin(0, 4);
        smallIs("the first that is enough", x, 4, 1);
        x.begin(0, 6);
        smallIs("none is needed", x, 4);
        x.begin(0, -1);
        Check.same("not different", x.small(4), -1);
    }

    private static void theFirstOfTheFewest() {
        ReplayHouse x = counting("get 0=2");
        x.ask(0, 0, 1, 9);
        x.ask(0, 0, 1, 7);
        x.ask(0, 0, 0, 8);
        x.ask(0, 0, 1, 8);
        x.ask(1, 0, 0, 10);
        Check.same("not different with three", x.differs(4), -1);
        x.ask(0, 0, -1, 6);
        smallIs("the first done are taken", x, 4, 1, 3);
        x.ask(0, 0, 2, 9);
        x.ask(0, 0, -2, 5);
        smallIs("one of 2 alone", x, 4, 6);
        x.ask(0, 0, 2, 0);
        x.ask(0, 0, -2, 1);
        smallIs("the first of them", x, 4, 8);
    }

    private static void lastTenAlone() {
        ReplayHouse x = counting("get 0=20");
        x.ask(0, 0, 15, 0);
        x.ask(0, 0, 5, 1);
        for (int i = 0; i < 8; i++) {
            x.ask(0, 1, 1, 2);
        }
        x.ask(1, 0, 0, 3);
        smallIs("ten may be left out", x, 10, 0, 1);
        x.ask(0, 1, 1, 2);
        smallIs("the eleventh is always in", x, 10, 1);
        x.ask(0, 1, 1, 2);
        smallIs("both are always in", x, 10);
        x.ask(0, 0, 5, 4);
        smallIs("those behind are never in", x, 10);
        ReplayHouse y = counting("9<get 0");
        for (int i = 0; i < 29; i++) {
            y.ask(0, 0, i < 19 ? 0 : 1, i);
        }
        y.ask(1, 0, 0, 99);
        smallIs("all ten of 29", y, 29, 19, 20, 21, 22, 23, 24, 25, 26, 27, 28);
    }

    private static void leftOutCauses() {
        ReplayHouse x = new ReplayHouse();
        Check.tellBoth(x, 0, "say b;");
        Check.set(x, 0, 1, "say 0;");
        Check.set(x, 1, 1, "say a;");
        x.ask(0, 0, 7, 0);
        x.ask(0, 0, 0, 0);
        x.ask(1, 0, 0, 1);
        x.caused(2, 0, 0);
        smallIs("the cause is needed", x, 2, 0);
        x.caused(2, -1, 0);
        Check.same("not different without", x.small(2), -1);
        x.ask(1, 5, 0, 2);
        x.caused(3, 1, 0);
        Check.same("the cause hides it", x.small(3), -1);
        x.caused(3, 0, 0);
        smallIs("different with the cause and without", x, 3);
    }

    private static void causedByTheAskItself() {
        ReplayHouse x = new ReplayHouse();
        Check.set(x, 0, 0, "say get 0*0;");
        Check.set(x, 1, 0, "say 2=get 0;");
        Check.tellBoth(x, 1, "when a=7 (put 0 get 0+1;)");
        x.ask(0, 0, 0, 9);
        for (int tick = 0; tick < 4; tick++) {
            x.ask(1, 7, 0, tick);
        }
        x.caused(1, 0, 0);
        x.caused(2, 0, 0);
        x.ask(1, 0, 0, 4);
        x.begin(0, -2);
        smallIs("its cause is done later in every trial", x, 0, 1, 2, 3, 4);
        x.begin(0, 0);
        x.caused(4, -1, 0);
        Check.same("four are too many", x.small(0), -1);
        x.begin(0, -1);
        Check.same("three of four are not all", x.small(0), -1);
        x.ask(1, 6, 0, 3);
        x.begin(0, -2);
        smallIs("without those that do nothing", x, 0, 1, 2, 3, 4);
    }

    private static void noiseCounts() {
        ReplayHouse x = new ReplayHouse();
        Check.tellBoth(x, 0, "put 0 get 0+1;");
        Check.set(x, 0, 1, "say 0; say 0;");
        Check.set(x, 1, 1, "say 0<get 0; say 1<get 0;");
        x.ask(0, 0, 0, 0);
        x.ask(0, 0, 0, 1);
        x.ask(1, 0, 0, 2);
        smallIs("one", x, 2, 0);
        x.noise(1, 0, true);
        smallIs("two", x, 2, 0, 1);
        x.noise(1, 0, false);
        smallIs("one again", x, 2, 0);
        Check.set(x, 0, 1, "say id-1; say 0;");
        smallIs("still one", x, 2, 0);
        Check.same("field 0", x.learn(), 1);
        smallIs("two when it was learnt", x, 2, 0, 1);
        Check.same("the whole runs stay", x.field(0, 2, 0), 0);
        Check.same("the whole runs stay", x.end(1, 0), 2);
    }

    private static void idsOfTrials() {
        ReplayHouse x = new ReplayHouse();
        Check.tellBoth(x, 0, "put 1 id;");
        Check.set(x, 0, 1, "say 0; say id;");
        Check.set(x, 1, 1, "say id=4; say id;");
        for (int i = 0; i < 3; i++) {
            x.ask(0, 0, 0, i);
        }
        x.ask(1, 0, 0, 3);
        x.noise(1, 1, true);
        smallIs("three ids ahead", x, 3, 0, 1, 2);
        for (int i = 0; i < 10; i++) {
            x.ask(2, 0, 0, 2);
        }
        smallIs("three ids always in", x, 3);
        Check.set(x, 1, 1, "say id=1; say id;");
        Check.same("not the first id", x.small(3), -1);
        x.ask(1, 0, 0, 0);
        Check.same("not the second", x.small(14), -1);
    }

    private static void versionsOfTrials() {
        ReplayHouse x = new ReplayHouse();
        Check.set(x, 0, 0, "put 0 5;");
        Check.set(x, 1, 0, "put 0 6;");
        Check.tellBoth(x, 1, "say get 0;");
        x.ask(0, 0, 0, 0);
        x.ask(1, 0, 0, 2);
        smallIs("the one that puts", x, 1, 0);
        for (int i = 0; i < 10; i++) {
            x.ask(2, 0, 0, 1);
        }
        smallIs("it is always in", x, 1);
    }

    private static void firstCallsBehindAChange() {
        ReplayHouse x = new ReplayHouse();
        Check.tellBoth(x, 0, "put a 1; when get 7 (put b get b;)");
        Check.set(x, 0, 1, "say 0;");
        Check.set(x, 1, 1, "say 0<get 1;");
        x.ask(0, 1, 2, 0);
        x.ask(0, 2, 1, 0);
        x.ask(1, 0, 0, 9);
        Check.same("small", x.small(2), 1);
        Check.same("free", x.free(0), 2);
        x.begin(7, 1);
        Check.same("free no more", x.free(0), 1);
        x.begin(7, 0);
        Check.same("free again", x.free(0), 2);
        x.begin(7, 1);
        Check.same("touching", x.touch(0, 1), true);
        x.begin(7, 0);
        Check.same("touching no more", x.touch(1, 0), false);
        x.begin(1, 1);
        Check.same("none is needed", x.smallest(2, 0), -1);
        x.begin(1, 0);
        Check.same("ask 0 is needed", x.smallest(2, 0), 0);
        Check.tellBoth(x, 0, "");
        Check.same("not different", x.smallest(2, 0), -1);
        Check.tellBoth(x, 0, "put b 1;");
        Check.same("ask 1 is needed", x.smallest(2, 0), 1);
    }

    private static void wrongInputs() {
        ReplayHouse x = new ReplayHouse();
        x.ask(0, 0, 0, 0);
        Class<NoSuchElementException> noAsk = NoSuchElementException.class;
        for (int ask : new int[] {-1, 1, 30, Integer.MAX_VALUE, Integer.MIN_VALUE}) {
            Check.fails("touch " + ask, noAsk, () -> x.touch(ask, 0));
            Check.fails("touch 0 and " + ask, noAsk, () -> x.touch(0, ask));
            Check.fails("touch " + ask + " twice", noAsk, () -> x.touch(ask, ask));
            Check.fails("free " + ask, noAsk, () -> x.free(ask));
            Check.fails("small " + ask, noAsk, () -> x.small(ask));
            Check.fails("smallest " + ask, noAsk, () -> x.smallest(ask, 0));
        }
    }
}
