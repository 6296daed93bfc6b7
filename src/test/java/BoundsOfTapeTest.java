/** The boundaries of promises 2 and 3: the tape's 400 bytes, n, and what a call that is refused leaves alone. */
public final class BoundsOfTapeTest {
    private static final int BLANKS = 0x20202020;

    public static void main(String[] args) {
        highestByteFirst();
        nothingIsDoneAbove400();
        emptiedAt400();
        nOfAnEmptyTape();
        nOfATapeWithBytes();
        nOfAFullTape();
        bytesBehindNDoNotCount();
        placesFrom0To400();
        emptyThenWhateverItWas();
        eachTextHasItsOwnPlace();
        refusedTextsLeaveAll();
        Check.close("BoundsOfTapeTest");
    }

    private static int feed(ReplayHouse x, int[] five) {
        return x.feed(five[0], five[1], five[2], five[3], five[4]);
    }

    /** Twenty blanks, but for one byte 255 that can stand nowhere. */
    private static int[] blanksBut(int place) {
        int[] five = {BLANKS, BLANKS, BLANKS, BLANKS, BLANKS};
        five[place / 4] |= 255 << (24 - 8 * (place % 4));
        return five;
    }

    private static void highestByteFirst() {
        for (int place = 0; place < 20; place++) {
            ReplayHouse x = new ReplayHouse();
            Check.same("twenty", feed(x, blanksBut(place)), 20);
            Check.same("byte " + place, x.text(0, 0, 20), -2 - place);
        }
    }

    private static void nothingIsDoneAbove400() {
        for (int place = 0; place < 400; place += 21) {
            ReplayHouse x = new ReplayHouse();
            for (int i = 1; i <= 20; i++) {
                int in = place - 20 * (i - 1);
                int[] five = in >= 0 && in < 20 ? blanksBut(in) : new int[] {BLANKS, BLANKS, BLANKS, BLANKS, BLANKS};
                Check.same("feed " + i, feed(x, five), 20 * i);
            }
            Check.same("the 21st", x.feed(-1, -1, -1, -1, -1), -1);
            Check.same("the 22nd", x.feed(0, 0, 0, 0, 0), -1);
            Check.same("400 bytes", x.count(2), 400);
            Check.same("as they were", x.text(0, 0, 400), -2 - place);
        }
    }

    private static void emptiedAt400() {
        ReplayHouse x = new ReplayHouse();
        for (int round = 0; round < 3; round++) {
            for (int i = 1; i <= 20; i++) {
                Check.same("feed " + i, x.feed(BLANKS, BLANKS, BLANKS, BLANKS, BLANKS), 20 * i);
            }
            Check.same("400 blanks", x.text(1, 2, 400), 0);
            Check.same("empty", x.count(2), 0);
        }
        Check.same("twenty again", x.feed(0, 0, 0, 0, 0), 20);
    }

    private static void nIs(ReplayHouse x, int bytes) {
        for (int n : new int[] {-1, bytes + 1, bytes + 20, 1000, Integer.MIN_VALUE, Integer.MAX_VALUE}) {
            Check.fails(n + " of " + bytes, IllegalArgumentException.class, () -> x.text(0, 0, n));
            Check.same("stay", x.count(2), bytes);
        }
    }

    private static void nOfAnEmptyTape() {
        ReplayHouse x = new ReplayHouse();
        nIs(x, 0);
        Check.same("none of none", x.text(0, 0, 0), 0);
        Check.same("still none", x.count(2), 0);
    }

    private static void nOfATapeWithBytes() {
        for (int n = 0; n <= 20; n++) {
            ReplayHouse x = new ReplayHouse();
            x.feed(BLANKS, BLANKS, BLANKS, BLANKS, BLANKS);
            nIs(x, 20);
            Check.same("n " + n, x.text(0, 0, n), 0);
            nIs(x, 0);
        }
    }

    private static void nOfAFullTape() {
        for (int n : new int[] {0, 1, 399, 400}) {
            ReplayHouse x = new ReplayHouse();
            Check.lay(x, " ".repeat(400));
            nIs(x, 400);
            Check.same("n " + n, x.text(0, 0, n), 0);
        }
        Check.stands(" ".repeat(394) + "say 1;", 1);
        Check.stands("say " + " ".repeat(394) + "1;", 1);
        Check.stands("say 1;" + " ".repeat(394), 1);
    }

    private static void firstBytes(String tape, int n, int due) {
        ReplayHouse x = new ReplayHouse();
        Check.lay(x, tape);
        Check.same("the first " + n + " of '" + tape + "'", x.text(0, 0, n), due);
    }

    private static void bytesBehindNDoNotCount() {
        firstBytes("say 1;", 6, 1);
        firstBytes("say 1;", 5, -7);
        firstBytes("puts", 3, -5);
        firstBytes("puts", 4, -2);
        firstBytes("say get 1;", 6, -6);
        firstBytes("say get 1;", 7, -9);
        firstBytes("say ab;", 5, -7);
        firstBytes("say ab;", 6, -6);
        firstBytes("say 1234567;", 10, -12);
        firstBytes("say 1234567;", 9, -11);
        firstBytes("say 1;say 2;", 6, 1);
        firstBytes("say 1;say 2;", 7, -8);
        firstBytes("when a(say 1;)", 13, -15);
        firstBytes("when a(say 1;)", 14, 2);
        firstBytes("say 1;}", 6, 1);
        firstBytes("say 1;}", 7, -8);
        firstBytes("say 1;  ", 7, 1);
    }

    private static void placesFrom0To400() {
        for (int place : new int[] {0, 1, 19, 20, 199, 398, 399}) {
            Check.none(" ".repeat(place) + "}" + " ".repeat(399 - place), place);
            Check.none(" ".repeat(place) + "z" + " ".repeat(399 - place), place);
        }
        Check.none("say 1" + " ".repeat(395), 400);
        Check.none("say 1" + " ".repeat(394), 399);
        Check.none("when 1 (" + " ".repeat(392), 400);
    }

    private static void emptyThenWhateverItWas() {
        String[] texts = {"say 1;", "say", "}", "", "say 1;say", "say 1234567;"};
        for (String text : texts) {
            ReplayHouse x = new ReplayHouse();
            Check.lay(x, text + " ".repeat(40));
            x.text(0, 0, text.length());
            Check.same("behind '" + text + "'", x.count(2), 0);
            Check.same("and fed again", x.feed(0, 0, 0, 0, 0), 20);
        }
    }

    private static void eachTextHasItsOwnPlace() {
        ReplayHouse x = new ReplayHouse();
        for (int kind = 0; kind < 4; kind++) {
            x.ask(kind, 0, 0, 0);
        }
        for (int i = 0; i < 8; i++) {
            Check.same("text " + i, Check.tell(x, i / 4, i % 4, "say " + (10 + i) + ";"), 1);
            for (int j = 0; j < 8; j++) {
                Check.same("fields of " + j, x.fields(j / 4, j % 4), j <= i ? 1 : 0);
                Check.same("field of " + j, x.field(j / 4, j % 4, 0), j <= i ? 10 + j : 0);
            }
            Check.same("S of all", x.count(3), i + 1);
        }
        Check.same("empty again", x.text(1, 2, 0), 0);
        Check.same("has none", x.fields(1, 2), 0);
        Check.same("S of seven", x.count(3), 7);
    }

    private static void refusedTextsLeaveAll() {
        ReplayHouse x = new ReplayHouse();
        Check.set(x, 0, 0, "say 5;say 6;");
        x.ask(0, 0, 0, 0);
        for (String none : new String[] {"say 7;say", "say 7;" + "say 8;".repeat(30), "say 1234567;", "x"}) {
            Check.same("none", Check.tell(x, 0, 0, none) <= -2, true);
            Check.same("the S stay", x.count(3), 2);
            Check.same("the text stays", x.field(0, 0, 1), 6);
            Check.same("and what is never done", x.never(0, 0), 0);
        }
        Check.lay(x, "say 7;");
        int[][] wrong = {{-1, 0}, {2, 0}, {0, -1}, {0, 4}, {Integer.MIN_VALUE, 0}, {0, Integer.MAX_VALUE}};
        for (int[] pair : wrong) {
            Check.fails("text", IllegalArgumentException.class, () -> x.text(pair[0], pair[1], 6));
            Check.same("the tape stays", x.count(2), 20);
        }
        Check.same("the text stays", x.field(0, 0, 0), 5);
        Check.same("and the tape is a text", x.text(1, 3, 6), 1);
    }
}
