import java.util.NoSuchElementException;

/** The boundaries of promises 8 to 18 and of "Terms", part 2: fields, noise, what is learnt, differences, shapes. */
public final class BoundsOfDifferencesTest {
    private static final int MIN = Integer.MIN_VALUE;
    private static final int MAX = Integer.MAX_VALUE;
    private static final Class<NoSuchElementException> NO_ASK = NoSuchElementException.class;
    private static final Class<IllegalArgumentException> WRONG = IllegalArgumentException.class;

    public static void main(String[] args) {
        versions0And1();
        aFieldOr0();
        whatsOfTouched();
        callsFrom0On();
        neverFrom0To30();
        noiseFieldsFrom0To7();
        fieldsThatBothHave();
        learntIsAddedAlone();
        allFieldsAreLearnt();
        learntFromAMillion();
        unlikeLengths();
        unlikeFields();
        whatIsBehindAnAnswer();
        noiseAtTheShorterLength();
        noShapes();
        thirtyShapes();
        shapesByTheLowestAsk();
        whatsOfShape();
        asksThatAreThere();
        Check.close("BoundsOfDifferencesTest");
    }

    private static void versions0And1() {
        ReplayHouse x = new ReplayHouse();
        Check.set(x, 0, 0, "put 0 10;say 1;");
        Check.set(x, 1, 0, "put 0 20;say 1;say outside 1;when 0 ()");
        x.ask(0, 0, 0, 0);
        for (int version = 0; version < 2; version++) {
            Check.same("fields", x.fields(version, 0), 1 + version);
            Check.same("end", x.end(version, 0), 10 + 10 * version);
            Check.same("touched", x.touched(version, 0, 2), 2 + 2 * version);
            Check.same("calls", x.calls(version), version);
            Check.same("never", x.never(version, 0), 0);
        }
        for (int version : new int[] {-1, 2, 3, MIN, MAX}) {
            Check.fails("fields in " + version, WRONG, () -> x.fields(version, 0));
            Check.fails("field in " + version, WRONG, () -> x.field(version, 0, 0));
            Check.fails("end in " + version, WRONG, () -> x.end(version, 0));
            Check.fails("touched in " + version, WRONG, () -> x.touched(version, 0, 0));
            Check.fails("calls in " + version, WRONG, () -> x.calls(version));
            Check.fails("never in " + version, WRONG, () -> x.never(version, 0));
        }
    }

    private static void aFieldOr0() {
        ReplayHouse x = new ReplayHouse();
        Check.set(x, 0, 0, "say a;".repeat(8));
        Check.set(x, 0, 1, "say a;");
        x.ask(0, 5, 0, 0);
        x.ask(1, 6, 0, 0);
        x.ask(2, 7, 0, 0);
        for (int field : new int[] {MIN, -9, -8, -1, 0, 1, 7, 8, 9, 16, MAX}) {
            Check.same("eight: " + field, x.field(0, 0, field), field >= 0 && field <= 7 ? 5 : 0);
            Check.same("one: " + field, x.field(0, 1, field), field == 0 ? 6 : 0);
            Check.same("none: " + field, x.field(0, 2, field), 0);
            Check.same("none in version 1: " + field, x.field(1, 0, field), 0);
        }
    }

    private static void whatsOfTouched() {
        ReplayHouse x = new ReplayHouse();
        Check.set(x, 0, 0, "say get 0;say get 7;put 0 1;");
        Check.set(x, 1, 0, "say 0;" + "put a get a;".repeat(8));
        x.ask(0, 7, 0, 0);
        x.ask(1, 7, 0, 0);
        Check.same("reads the lowest and the highest", x.touched(0, 0, 0), 129);
        Check.same("writes the lowest", x.touched(0, 0, 1), 1);
        Check.same("did three", x.touched(0, 0, 2), 3);
        Check.same("reads the highest", x.touched(1, 0, 0), 128);
        Check.same("writes the highest", x.touched(1, 0, 1), 128);
        Check.same("did nine", x.touched(1, 0, 2), 9);
        for (int what = 0; what < 3; what++) {
            Check.same("an empty text: " + what, x.touched(0, 1, what), 0);
        }
        for (int what : new int[] {-1, 3, 4, MIN, MAX}) {
            Check.fails("what " + what, WRONG, () -> x.touched(0, 0, what));
            Check.fails("what " + what + " of no ask", NO_ASK, () -> x.touched(0, 2, what));
        }
        ReplayHouse y = new ReplayHouse();
        Check.set(y, 0, 0, "put 0 get 0;put 1 get 1;put 2 get 2;put 3 get 3;put 4 get 4;put 5 get 5;put 6 get 6;"
                + "put 7 get 7;");
        y.ask(0, 0, 0, 0);
        Check.same("reads all", y.touched(0, 0, 0), 255);
        Check.same("writes all", y.touched(0, 0, 1), 255);
    }

    private static void callsFrom0On() {
        ReplayHouse x = new ReplayHouse();
        Check.set(x, 0, 0, "say " + "outside ".repeat(12) + "1;");
        Check.set(x, 1, 0, "when 0 (say outside 1;)");
        Check.same("no ask", x.calls(0), 0);
        for (int i = 1; i <= 30; i++) {
            x.ask(0, 0, 0, 0);
            Check.same("twelve each", x.calls(0), 12 * i);
            Check.same("none", x.calls(1), 0);
        }
    }

    private static void neverFrom0To30() {
        for (int steps = 0; steps <= 30; steps++) {
            ReplayHouse x = new ReplayHouse();
            Check.set(x, 1, 3, "say 1;".repeat(steps));
            Check.same("all of " + steps, x.never(1, 3), steps);
            x.ask(3, 0, 0, 0);
            Check.same("none of " + steps, x.never(1, 3), 0);
            Check.same("nor of version 0", x.never(0, 3), 0);
            Check.same("S for it", x.touched(1, 0, 2), steps);
        }
        for (int a = 0; a < 4; a++) {
            ReplayHouse x = new ReplayHouse();
            Check.set(x, 0, 0, "when a<1 (say 1;) when 0<a (say 2;when 1<a (say 3;say 4;))");
            x.ask(0, a, 0, 0);
            Check.same("a " + a, x.never(0, 0), new int[] {4, 3, 1, 1}[a]);
            x.ask(0, 3 - a, 0, 0);
            Check.same("and " + (3 - a), x.never(0, 0), new int[] {0, 1, 1, 0}[a]);
        }
        for (int place = 0; place < 29; place++) {
            ReplayHouse x = new ReplayHouse();
            Check.set(x, 0, 0, "put 0 1;".repeat(place) + "when a (say 1;)" + "put 0 1;".repeat(28 - place));
            x.ask(0, 0, 0, 0);
            Check.same("a when as S " + place + " that is not done", x.never(0, 0), 1);
            Check.same("nothing is said", x.fields(0, 0), 0);
            x.ask(0, 1, 0, 0);
            Check.same("a when as S " + place + " that is done", x.never(0, 0), 0);
            Check.same("it is said", x.fields(0, 1), 1);
        }
        ReplayHouse x = new ReplayHouse();
        for (int kind : new int[] {-1, 4, MIN, MAX}) {
            Check.fails("kind " + kind, WRONG, () -> x.never(0, kind));
            Check.fails("kind " + kind, WRONG, () -> x.never(2, kind));
        }
    }

    private static void noiseFieldsFrom0To7() {
        ReplayHouse x = new ReplayHouse();
        for (int kind : new int[] {-1, 4, MIN, MAX}) {
            Check.fails("kind " + kind, WRONG, () -> x.noise(kind, 0, true));
            Check.fails("kind " + kind, WRONG, () -> x.noise(kind, 8, true));
        }
        for (int field : new int[] {-1, 8, -8, MIN, MAX}) {
            for (int kind = 0; kind < 4; kind++) {
                int of = kind;
                Check.fails("field " + field, WRONG, () -> x.noise(of, field, true));
            }
        }
        Check.same("none came", x.count(1), 0);
        for (int i = 0; i < 32; i++) {
            Check.same("not yet", x.noise(i / 8, i % 8, false), false);
            Check.same("not by that", x.noise(i / 8, i % 8, true), false);
            Check.same("so many", x.count(1), i + 1);
        }
        for (int i = 31; i >= 0; i--) {
            Check.same("it was", x.noise(i / 8, i % 8, true), true);
            Check.same("it still was", x.noise(i / 8, i % 8, false), true);
            Check.same("no more", x.noise(i / 8, i % 8, false), false);
            Check.same("so many less", x.count(1), i);
        }
    }

    /** Of answers of unlike length only the fields that both have are learnt; the texts ask for a latest id above. */
    private static void fieldsThatBothHave() {
        for (int longer = 0; longer < 2; longer++) {
            ReplayHouse x = new ReplayHouse();
            String sign = longer == 0 ? "(id<500000)" : "(500000<id)";
            Check.set(x, 0, 0, "say id;put 0 " + sign + ";say 4;say id;when get 0 (say id;say id;)");
            x.ask(0, 0, 0, 0);
            Check.same("fields 0 and 2", x.learn(), 2);
            for (int field = 0; field < 8; field++) {
                Check.same("field " + field, x.noise(0, field, false), field == 0 || field == 2);
            }
        }
        ReplayHouse x = new ReplayHouse();
        Check.set(x, 0, 0, "when id<500000 (say 1;)");
        x.ask(0, 0, 0, 0);
        Check.same("one of both is empty", x.learn(), 0);
        Check.set(x, 0, 0, "say 3;when id<500000 (say 1;)");
        Check.same("alike as far as both go", x.learn(), 0);
        Check.set(x, 0, 0, "say 3;when id<500000 (say 1;) say 2;");
        Check.same("not alike at the next", x.learn(), 1);
    }

    private static void learntIsAddedAlone() {
        ReplayHouse x = new ReplayHouse();
        Check.same("no asks", x.learn(), 0);
        Check.set(x, 0, 0, "say id;say id;");
        Check.set(x, 1, 1, "say id;");
        x.ask(1, 0, 0, 0);
        Check.same("version 1 is not run", x.learn(), 0);
        x.ask(0, 0, 0, 0);
        x.noise(0, 0, true);
        x.noise(0, 5, true);
        Check.same("one that was noise does not come", x.learn(), 1);
        Check.same("three", x.count(1), 3);
        Check.same("what is alike stays noise", x.noise(0, 5, true), true);
        x.ask(0, 0, 0, 0);
        Check.same("two asks of a kind learn the same", x.learn(), 0);
        x.noise(0, 0, false);
        x.noise(0, 1, false);
        Check.same("each counts once", x.learn(), 2);
    }

    private static void allFieldsAreLearnt() {
        ReplayHouse x = new ReplayHouse();
        for (int kind = 0; kind < 4; kind++) {
            Check.set(x, 0, kind, "say id;".repeat(9));
            x.ask(kind, 0, 0, 0);
        }
        Check.same("8 of 4", x.learn(), 32);
        Check.same("all", x.count(1), 32);
        Check.same("no more", x.learn(), 0);
    }

    private static void learntFromAMillion() {
        ReplayHouse x = new ReplayHouse();
        String million = "(999999+1)";
        Check.set(x, 0, 0, "put 0 id;say get 0=" + million + ";say get 0=(" + million + "+1);say get 0=("
                + million + "+2);say " + million + "<get 0;say (" + million + "+1)<get 0;");
        x.ask(0, 0, 0, 0);
        Check.same("a million and 1 alone", x.learn(), 2);
        boolean[] due = {false, true, false, true, false};
        for (int field = 0; field < due.length; field++) {
            Check.same("field " + field, x.noise(0, field, true), due[field]);
        }
    }

    /** All pairs of lengths, 9 said being 8; with and without noise at all fields. */
    private static void unlikeLengths() {
        for (int one = 0; one <= 9; one++) {
            ReplayHouse x = new ReplayHouse();
            x.ask(2, 0, 0, 0);
            Check.set(x, 0, 2, "say 1;".repeat(one));
            for (int other = 0; other <= 9; other++) {
                Check.set(x, 1, 2, "say 1;".repeat(other));
                int length = Math.min(8, one);
                int otherLength = Math.min(8, other);
                int due = length == otherLength ? -1 : Math.min(length, otherLength);
                Check.same(one + " and " + other, x.differs(0), due);
                for (int field = 0; field < 8; field++) {
                    x.noise(2, field, true);
                }
                Check.same(one + " and " + other + ", all noise", x.differs(0), due);
                for (int field = 0; field < 8; field++) {
                    x.noise(2, field, false);
                }
            }
        }
    }

    private static void unlikeFields() {
        for (int field = 0; field < 9; field++) {
            ReplayHouse x = new ReplayHouse();
            Check.set(x, 0, 1, "say 1;".repeat(9));
            Check.set(x, 1, 1, "say 1;".repeat(field) + "say 2;" + "say 1;".repeat(8 - field));
            x.ask(1, 0, 0, 0);
            Check.same("at " + field, x.differs(0), field < 8 ? field : -1);
            x.noise(0, field % 8, true);
            Check.same("noise of another kind", x.differs(0), field < 8 ? field : -1);
            x.noise(1, (field + 1) % 8, true);
            Check.same("noise of another field", x.differs(0), field < 8 ? field : -1);
            x.noise(1, field % 8, true);
            Check.same("noise", x.differs(0), -1);
        }
        ReplayHouse x = new ReplayHouse();
        Check.set(x, 0, 0, "say a;".repeat(8));
        Check.set(x, 1, 0, "say b;".repeat(8));
        x.ask(0, MIN, MAX, 0);
        for (int field = 0; field < 8; field++) {
            Check.same("the first that is no noise", x.differs(0), field);
            x.noise(0, field, true);
        }
        Check.same("all are noise", x.differs(0), -1);
        x.noise(0, 7, false);
        Check.same("the last is none", x.differs(0), 7);
    }

    /** Neither what was said earlier nor the next ask's answer is a field of it. */
    private static void whatIsBehindAnAnswer() {
        ReplayHouse x = new ReplayHouse();
        Check.set(x, 0, 0, "say 1;say 2;say 3;");
        Check.set(x, 1, 0, "say 1;say 4;say 5;");
        x.ask(0, 0, 0, 0);
        Check.same("unlike", x.differs(0), 1);
        Check.tellBoth(x, 0, "say 1;");
        Check.same("alike now", x.differs(0), -1);
        Check.same("no field 1", x.field(1, 0, 1), 0);
        Check.tellBoth(x, 0, "");
        Check.same("alike when empty", x.differs(0), -1);
        ReplayHouse y = new ReplayHouse();
        Check.set(y, 0, 0, "say 1;".repeat(7) + "say a;");
        Check.set(y, 1, 0, "say a;" + "say 1;".repeat(7));
        for (int i = 0; i < 30; i++) {
            y.ask(0, i % 2, 0, 0);
        }
        for (int i = 0; i < 30; i++) {
            Check.same("eight fields each, ask " + i, y.differs(i), i % 2 == 1 ? -1 : 0);
        }
    }

    private static void noiseAtTheShorterLength() {
        ReplayHouse x = new ReplayHouse();
        Check.set(x, 0, 0, "say 1;say 2;");
        Check.set(x, 1, 0, "say 1;say 2;say 3;");
        x.ask(0, 0, 0, 0);
        x.noise(0, 2, true);
        Check.same("a length is no field", x.differs(0), 2);
        Check.set(x, 1, 0, "say 1;say 3;say 3;");
        Check.same("a field is ahead of the length", x.differs(0), 1);
        x.noise(0, 1, true);
        Check.same("noise, then the length", x.differs(0), 2);
        Check.set(x, 1, 0, "say 1;say 3;");
        Check.same("of one length now", x.differs(0), -1);
    }

    private static void noShapes() {
        ReplayHouse x = new ReplayHouse();
        Check.same("no asks", x.shapes(), 0);
        for (int what = 0; what < 4; what++) {
            Check.same("no asks: " + what, x.shape(0, what), -1);
        }
        x.ask(0, 0, 0, 0);
        Check.same("none is different", x.shapes(), 0);
        Check.same("none is different", x.shape(0, 3), -1);
        Check.set(x, 1, 0, "say 1;");
        Check.same("one is", x.shapes(), 1);
        Check.same("ask 0", x.shape(0, 3), 0);
    }

    /** As many shapes as there can be asks: thirty pairs of a kind and a place. */
    private static void thirtyShapes() {
        ReplayHouse x = new ReplayHouse();
        for (int kind = 0; kind < 4; kind++) {
            Check.set(x, 0, kind, "say a=0;say a=1;say a=2;say a=3;say a=4;say a=5;say a=6;say a=7;");
            Check.set(x, 1, kind, "say 0;".repeat(8));
        }
        for (int i = 0; i < 30; i++) {
            x.ask(i % 4, i / 4, 0, 30 - i);
            Check.same("so many", x.shapes(), i + 1);
            Check.same("no more", x.shape(i + 1, 0), -1);
        }
        for (int k = 0; k < 30; k++) {
            Check.same("kind " + k, x.shape(k, 0), k % 4);
            Check.same("where " + k, x.shape(k, 1), k / 4);
            Check.same("how many " + k, x.shape(k, 2), 1);
            Check.same("the lowest " + k, x.shape(k, 3), k);
        }
        for (int k : new int[] {30, 31, 32, -1, MIN, MAX}) {
            for (int what = 0; what < 4; what++) {
                Check.same("no shape " + k, x.shape(k, what), -1);
            }
        }
    }

    private static void shapesByTheLowestAsk() {
        ReplayHouse x = new ReplayHouse();
        Check.set(x, 0, 3, "say 1;say b;");
        Check.set(x, 1, 3, "say a;say 5;");
        Check.set(x, 1, 0, "say a;");
        int[][] asks = {{3, 1, 5}, {3, 1, 4}, {0, 0, 0}, {3, 2, 5}, {3, 1, 6}, {0, 9, 9}, {3, 3, 4}, {3, 1, 5}};
        for (int i = 0; i < asks.length; i++) {
            x.ask(asks[i][0], asks[i][1], asks[i][2], 100 - i);
        }
        int[][] due = {{3, 1, 2, 1}, {0, 0, 2, 2}, {3, 0, 2, 3}};
        Check.same("three", x.shapes(), 3);
        for (int k = 0; k < 4; k++) {
            for (int what = 0; what < 4; what++) {
                Check.same("shape " + k + ", " + what, x.shape(k, what), k < 3 ? due[k][what] : -1);
            }
        }
    }

    private static void whatsOfShape() {
        ReplayHouse x = new ReplayHouse();
        for (int what : new int[] {-1, 4, 5, MIN, MAX}) {
            Check.fails("what " + what + " without shapes", WRONG, () -> x.shape(0, what));
            Check.fails("what " + what + " of none", WRONG, () -> x.shape(-1, what));
        }
        Check.set(x, 1, 0, "say 1;");
        x.ask(0, 0, 0, 0);
        for (int what : new int[] {-1, 4, 5, MIN, MAX}) {
            Check.fails("what " + what, WRONG, () -> x.shape(0, what));
        }
    }

    private static void asksThatAreThere() {
        for (int asks : new int[] {0, 1, 29, 30}) {
            ReplayHouse x = new ReplayHouse();
            for (int i = 0; i < asks; i++) {
                x.ask(0, 0, 0, 0);
            }
            for (int ask : new int[] {-1, asks, asks + 1, 31, MIN, MAX}) {
                Check.fails("fields " + ask, NO_ASK, () -> x.fields(0, ask));
                Check.fails("field " + ask, NO_ASK, () -> x.field(1, ask, 0));
                Check.fails("touched " + ask, NO_ASK, () -> x.touched(0, ask, 0));
                Check.fails("differs " + ask, NO_ASK, () -> x.differs(ask));
            }
            for (int ask = Math.max(0, asks - 1); ask < asks; ask++) {
                Check.same("fields", x.fields(0, ask), 0);
                Check.same("field", x.field(1, ask, 0), 0);
                Check.same("touched", x.touched(0, ask, 2), 0);
                Check.same("differs", x.differs(ask), -1);
            }
        }
    }
}
