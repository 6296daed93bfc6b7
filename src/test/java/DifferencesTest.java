import java.util.NoSuchElementException;

/** Promises 14 to 18: noise, learn, differs, shapes, shape. */
public final class DifferencesTest {
    public static void main(String[] args) {
        noises();
        learning();
        learningFromAMillion();
        thirtyAsks();
        learningThroughCauses();
        differences();
        shapes();
        firstCallsBehindAChange();
        lastShape();
        wrongInputs();
        Check.close("DifferencesTest");
    }

    private static void noises() {
        ReplayHouse x = new ReplayHouse();
        for (int kind = 0; kind < 4; kind++) {
            for (int field = 0; field < 8; field++) {
                Check.same("none at first", x.noise(kind, field, false), false);
                Check.same("not yet", x.noise(kind, field, true), false);
                Check.same("now", x.noise(kind, field, true), true);
                Check.same("how many", x.count(1), kind * 8 + field + 1);
            }
        }
        Check.same("not any more", x.noise(2, 5, false), true);
        Check.same("31", x.count(1), 31);
    }

    private static void learning() {
        ReplayHouse x = new ReplayHouse();
        Check.set(x, 0, 0, "say 1; say id; say a; say id*0;");
        Check.set(x, 1, 0, "say id; say id; say id; say id;");
        Check.set(x, 0, 1, "say get 0; put 0 id; when 999<get 0 (say 5;) say 6;");
        Check.same("without asks", x.learn(), 0);
        x.ask(0, 0, 0, 0);
        x.ask(0, 0, 0, 1);
        x.ask(1, 0, 0, 2);
        Check.same("field 1 of kind 0, field 1 of kind 1", x.learn(), 2);
        Check.same("is noise", x.noise(0, 1, true), true);
        Check.same("is noise", x.noise(1, 1, true), true);
        Check.same("nothing new", x.learn(), 0);
        x.ask(1, 0, 0, 3);
        Check.same("what was put is noise", x.learn(), 1);
        Check.same("field 0", x.noise(1, 0, false), true);
        Check.same("again", x.learn(), 1);
        Check.same("three", x.count(1), 3);
        Check.same("the runs with 0 stay", x.field(0, 0, 1), 1);
        x.noise(3, 7, true);
        Check.same("what is noise stays", x.learn(), 0);
        Check.same("four", x.count(1), 4);
    }

    private static void learningFromAMillion() {
        ReplayHouse x = new ReplayHouse();
        Check.set(x, 0, 0, "say id=(999999+2); say id=(999999+2); say id=(999999+4); say 0<id;");
        x.ask(0, 0, 0, 0);
        Check.same("its first and third id", x.learn(), 2);
        Check.same("the first", x.noise(0, 0, true), true);
        Check.same("the second", x.noise(0, 1, true), false);
        Check.same("the third", x.noise(0, 2, true), true);
    }

    private static void thirtyAsks() {
        ReplayHouse x = new ReplayHouse();
        Check.set(x, 0, 0, "say id;");
        Check.set(x, 0, 1, "say 1;");
        for (int i = 0; i < 30; i++) {
            x.ask(i < 29 ? 0 : 1, 0, 0, 30 - i);
        }
        Check.same("both kinds", x.shapes(), 2);
        Check.same("29 of the first", x.shape(0, 2), 29);
        Check.same("the second's one", x.shape(1, 3), 29);
        Check.same("no third", x.shape(2, 3), -1);
        Check.same("ids", x.learn(), 1);
        Check.same("still unlike in length", x.shapes(), 2);
        Check.same("free of all", x.free(29), 29);
    }

    private static void learningThroughCauses() {
        ReplayHouse x = new ReplayHouse();
        Check.set(x, 0, 0, "say id;");
        Check.set(x, 0, 1, "say 0; say a;");
        x.ask(0, 0, 0, 0);
        x.ask(1, 0, 0, 0);
        x.caused(1, 0, 0);
        Check.same("both", x.learn(), 2);
        Check.same("through the cause", x.noise(1, 1, true), true);
        Check.same("but not field 0", x.noise(1, 0, true), false);
    }

    private static void differences() {
        ReplayHouse x = new ReplayHouse();
        Check.set(x, 0, 0, "say 1; say 2; say 3;");
        Check.set(x, 1, 0, "say 1; say 4; say 5;");
        Check.set(x, 0, 1, "say 1; say 2;");
        Check.set(x, 1, 1, "say 1; say 2; say 3;");
        Check.set(x, 0, 2, "say 1;say 1;say 1;say 1;say 1;say 1;say 1;say 1;say 1;");
        Check.set(x, 1, 2, "say 1;say 1;say 1;say 1;say 1;say 1;say 1;say 1;say 2;");
        for (int kind = 0; kind < 4; kind++) {
            x.ask(kind, 0, 0, 0);
        }
        Check.same("at the first unlike field", x.differs(0), 1);
        Check.same("at the shorter one's length", x.differs(1), 2);
        Check.same("what is not kept does not count", x.differs(2), -1);
        Check.same("empty ones", x.differs(3), -1);
        x.noise(0, 1, true);
        Check.same("at the next field", x.differs(0), 2);
        x.noise(0, 2, true);
        Check.same("all noise", x.differs(0), -1);
        x.noise(1, 2, true);
        Check.same("a length is no field", x.differs(1), 2);
        Check.set(x, 1, 1, "say 9; say 2; say 3;");
        Check.same("the field ahead of the length", x.differs(1), 0);
        x.noise(1, 0, true);
        Check.same("the length behind noise", x.differs(1), 2);
        Check.set(x, 1, 1, "");
        Check.same("the other one shorter", x.differs(1), 0);
    }

    private static void shapes() {
        ReplayHouse x = new ReplayHouse();
        Check.set(x, 0, 0, "say 1; when a (say 1;)");
        Check.set(x, 1, 0, "say 1+b; when a (say 2;)");
        Check.set(x, 0, 1, "say 1;");
        int[][] asks = {{0, 0, 0}, {0, 1, 0}, {1, 0, 0}, {0, 0, 1}, {0, 5, 0}, {0, 1, 1}, {1, 0, 0}};
        for (int[] ask : asks) {
            x.ask(ask[0], ask[1], ask[2], 10 - ask[1]);
        }
        int[][] due = {{0, 1, 2, 1}, {1, 0, 2, 2}, {0, 0, 2, 3}};
        Check.same("three", x.shapes(), 3);
        for (int k = 0; k < 3; k++) {
            for (int what = 0; what < 4; what++) {
                Check.same("shape " + k + ", " + what, x.shape(k, what), due[k][what]);
            }
        }
        for (int what = 0; what < 4; what++) {
            Check.same("no shape 3", x.shape(3, what), -1);
            Check.same("no shape -1", x.shape(-1, what), -1);
            Check.same("none of the greatest", x.shape(Integer.MAX_VALUE, what), -1);
        }
        x.noise(0, 0, true);
        Check.same("noise at field 0", x.shapes(), 2);
        Check.same("one more has the first shape", x.shape(0, 2), 3);
        Check.same("the second", x.shape(1, 3), 2);
    }

    private static void firstCallsBehindAChange() {
        ReplayHouse x = new ReplayHouse();
        Check.set(x, 0, 0, "say id;");
        Check.set(x, 1, 0, "say id+get 0;");
        x.ask(0, 0, 0, 0);
        Check.same("alike", x.differs(0), -1);
        x.begin(0, 1);
        Check.same("the first shape's lowest", x.shape(0, 3), 0);
        x.begin(0, 0);
        Check.same("no shape", x.shapes(), 0);
        x.begin(0, 1);
        Check.same("one shape", x.shapes(), 1);
        x.begin(0, 0);
        Check.same("no difference", x.differs(0), -1);
        x.begin(0, 1);
        Check.same("learnt", x.learn(), 1);
        Check.same("noise hides it", x.differs(0), -1);
        Check.same("and its shape", x.shapes(), 0);
    }

    /** The highest kind and the last place. */
    private static void lastShape() {
        ReplayHouse x = new ReplayHouse();
        Check.tellBoth(x, 3, "say a;say 1;say 1;say 1;say 1;say 1;say 1;say b;");
        x.ask(3, 1, 1, 0);
        Check.same("alike", x.shapes(), 0);
        Check.set(x, 1, 3, "say a;say 1;say 1;say 1;say 1;say 1;say 1;");
        Check.same("one shape", x.shapes(), 1);
        Check.same("kind 3", x.shape(0, 0), 3);
        Check.same("at 7", x.shape(0, 1), 7);
        Check.same("of one ask", x.shape(0, 2), 1);
        Check.same("ask 0", x.shape(0, 3), 0);
        x.ask(0, 0, 0, 0);
        Check.set(x, 0, 0, "say 1;");
        Check.same("two shapes", x.shapes(), 2);
        Check.same("kind 0 next", x.shape(1, 0), 0);
    }

    private static void wrongInputs() {
        ReplayHouse x = new ReplayHouse();
        x.ask(0, 0, 0, 0);
        Class<IllegalArgumentException> wrong = IllegalArgumentException.class;
        Check.fails("kind -1", wrong, () -> x.noise(-1, 0, true));
        Check.fails("kind 4", wrong, () -> x.noise(4, 0, true));
        Check.fails("field -1", wrong, () -> x.noise(0, -1, true));
        Check.fails("field 8", wrong, () -> x.noise(0, 8, true));
        Check.same("none came", x.count(1), 0);
        Check.fails("what -1", wrong, () -> x.shape(0, -1));
        Check.fails("what 4", wrong, () -> x.shape(0, 4));
        Check.fails("what 4 of none", wrong, () -> x.shape(9, 4));
        Check.fails("ask 1", NoSuchElementException.class, () -> x.differs(1));
        Check.fails("ask -1", NoSuchElementException.class, () -> x.differs(-1));
    }
}
