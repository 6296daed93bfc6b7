/** Promises 1 to 3: a new object, feed, text. */
public final class TapeAndTextTest {
    public static void main(String[] args) {
        newObject();
        feedCounts();
        bytesStandHighestFirst();
        textsThatStand();
        placesOfTextsThatAreNone();
        bounds();
        textStaysAndTapeIsEmptied();
        wrongInputs();
        Check.close("TapeAndTextTest");
    }

    private static void newObject() {
        ReplayHouse x = new ReplayHouse();
        for (int what = 0; what < 4; what++) {
            Check.same("new: count " + what, x.count(what), 0);
        }
        for (int key = 0; key < 8; key++) {
            Check.same("new: end " + key, x.end(0, key), 0);
            Check.same("new: begin " + key, x.begin(key, 0), 0);
        }
        for (int argument = 0; argument < 16; argument++) {
            Check.same("new: keep " + argument, x.keep(argument, 0), 0);
        }
        Check.same("new: shapes", x.shapes(), 0);
        Check.same("new: shape", x.shape(0, 0), -1);
        Check.same("new: learn", x.learn(), 0);
        Check.same("new: lag", x.lag(0, 1, 1), 0);
        Check.same("new: calls", x.calls(1), 0);
        Check.same("new: never", x.never(1, 3), 0);
        Check.same("new: an ask of an empty text", x.ask(0, 1, 2, 3), 0);
        Check.same("new: has no fields", x.fields(0, 0), 0);
        Check.same("new: is like the other", x.differs(0), -1);
        Check.same("NONE", ReplayHouse.NONE, -1);
    }

    private static void feedCounts() {
        ReplayHouse x = new ReplayHouse();
        for (int i = 1; i <= 20; i++) {
            Check.same("feed " + i, x.feed(i, i, i, i, i), 20 * i);
            Check.same("bytes " + i, x.count(2), 20 * i);
        }
        Check.same("the 21st feed", x.feed(0, 0, 0, 0, 0), -1);
        Check.same("bytes after it", x.count(2), 400);
        Check.same("all 400 as a text", x.text(0, 0, 400), -2);
        Check.same("empty then", x.count(2), 0);
    }

    private static void bytesStandHighestFirst() {
        ReplayHouse x = new ReplayHouse();
        x.feed(0x73617920, 0x61202b20, 0x62202a20, 0x28332d69, 0x64293b20);
        Check.same("say a + b * (3-id);", x.text(0, 0, 20), 1);
        x.ask(0, 5, 6, 0);
        Check.same("worked", x.field(0, 0, 0), 22);
        x.feed(0x80808080, -1, 0, 0, 0);
        Check.same("a byte 128", x.text(0, 0, 1), -2);
    }

    private static void textsThatStand() {
        Check.stands("", 0);
        Check.stands("   ", 0);
        Check.stands("put1 2;", 1);
        Check.stands("put 1a;", 1);
        Check.stands("put a(b);", 1);
        Check.stands("put 1 2 ;  ", 1);
        Check.stands("put a+b*3-id get outside(1<2);", 1);
        Check.stands("put (a=b) 3;", 1);
        Check.stands("say(a);", 1);
        Check.stands("say get1;", 1);
        Check.stands("say 000000;", 1);
        Check.stands("say 999999;", 1);
        Check.stands("say a<b;say a=b;say(a<b)<(b<a);", 3);
        Check.stands("when a()", 1);
        Check.stands("when a()when b()", 2);
        Check.stands("when(a)(say 1;when b<a(put 1 2;))say 2;", 5);
        Check.stands("  when  a  =  b  (  say  1  ;  )  ", 2);
    }

    private static void placesOfTextsThatAreNone() {
        Check.none("x", 0);
        Check.none("pu", 0);
        Check.none("puts 1 2;", 0);
        Check.none("puta 1 2;", 0);
        Check.none("putz 1 2;", 0);
        Check.none("say az;", 4);
        Check.none("say outsidea 1;", 4);
        Check.none("put", 3);
        Check.none("put ", 4);
        Check.none("put 1", 5);
        Check.none("put 1  ", 7);
        Check.none("put 1<2 3;", 5);
        Check.none("put a - 1 ;", 10);
        Check.none("put 1 2 3;", 8);
        Check.none("put 1 2=3;", 7);
        Check.none("say 1,", 5);
        Check.none("say 1 2;", 6);
        Check.none("say 1a;", 5);
        Check.none("say ab;", 4);
        Check.none("say geta;", 4);
        Check.none("say outsid a;", 4);
        Check.none("say A;", 4);
        Check.none("say -1;", 4);
        Check.none("say 1+;", 6);
        Check.none("say 1++2;", 6);
        Check.none("say a<;", 6);
        Check.none("say a<b=a;", 7);
        Check.none("say a=b<a;", 7);
        Check.none("say (a<b<a);", 8);
        Check.none("say ();", 5);
        Check.none("say (a", 6);
        Check.none("say (a;", 6);
        Check.none("say a);", 5);
        Check.none("say get put;", 8);
        Check.none("say\t1;", 3);
        Check.none("say 1;\0", 6);
        Check.none("say 1; ;", 7);
        Check.none("when a", 6);
        Check.none("when a;", 6);
        Check.none("when a (say 1;) )", 16);
        Check.none("when a (say 1;", 14);
        Check.none("when a (say 1;  ", 16);
        Check.none("when (say 1;)", 6);
        Check.none(")", 0);
        Check.none("say 1234567;", 10);
        Check.none("say 12345678;", 10);
        Check.none("say 1 1234567;", 6);
        Check.none("say 1234567", 10);
    }

    private static void bounds() {
        Check.stands("say " + "get ".repeat(12) + "a;", 1);
        Check.none("say " + "get ".repeat(13) + "a;", 4 + 12 * 4);
        Check.stands("put " + "get ".repeat(12) + "a " + "get ".repeat(12) + "b;", 1);
        Check.none("put " + "get ".repeat(13) + "a 1;", 4 + 12 * 4);
        Check.none("put 1 " + "get ".repeat(13) + "a;", 6 + 12 * 4);
        Check.none("say 1<" + "get ".repeat(13) + "a;", 6 + 12 * 4);
        Check.none("when " + "get ".repeat(13) + "a ()", 5 + 12 * 4);
        Check.stands("say " + "(".repeat(12) + "a" + ")".repeat(12) + ";", 1);
        Check.none("say " + "(".repeat(13) + "a" + ")".repeat(13) + ";", 16);
        Check.stands("say " + "get(outside ".repeat(4) + "a" + ")".repeat(4) + ";", 1);
        Check.none("say " + "get(outside ".repeat(4) + "outside a" + ")".repeat(4) + ";", 52);
        Check.none("say " + "get(outside ".repeat(4) + "(a)" + ")".repeat(4) + ";", 52);
        Check.stands("say " + "get ".repeat(12) + "a" + "+" + "get ".repeat(12) + "a;", 1);
        Check.none("say " + "get ".repeat(11) + "(a+get a);", 4 + 44 + 3);
        Check.stands("when " + "(".repeat(12) + "a" + ")".repeat(12) + "(put (((1))) " + "get ".repeat(12) + "a;)", 2);
        Check.stands("when a(".repeat(6) + ")".repeat(6), 6);
        Check.none("when a(".repeat(6) + " when a()" + ")".repeat(6), 43);
        Check.stands("when a(".repeat(6) + ")".repeat(6) + "when a(".repeat(6) + ")".repeat(6), 12);
        Check.stands("when a(".repeat(6) + "say 1;)" + "when b(say 2;)" + ")".repeat(5), 9);
        Check.stands("say 1;".repeat(30) + "  ", 30);
        Check.none("say 1;".repeat(30) + " say 1;", 181);
        Check.none("say 1;".repeat(30) + " foo", 181);
        Check.stands("say 1;".repeat(29) + "when 1 ()", 30);
        Check.none("say 1;".repeat(29) + "when 1 ( say 1;)", 174 + 9);
        Check.none("say 1;".repeat(24) + "when a(".repeat(6) + "when a(" + ")".repeat(7), 144 + 42);
        Check.stands("say a" + "+a".repeat(197) + ";", 1);
        Check.none("say a" + "+a".repeat(197) + "+", 400);
        ReplayHouse x = new ReplayHouse();
        Check.set(x, 0, 0, "say a" + "+a".repeat(197) + ";");
        x.ask(0, 3, 0, 0);
        Check.same("198 times 3", x.field(0, 0, 0), 594);
    }

    private static void textStaysAndTapeIsEmptied() {
        ReplayHouse x = new ReplayHouse();
        Check.same("a text", Check.tell(x, 0, 2, "say 1;say 2;"), 2);
        x.ask(2, 0, 0, 0);
        Check.same("none", Check.tell(x, 0, 2, "say 9; say"), -12);
        Check.same("the tape is empty", x.count(2), 0);
        Check.same("the text stays", x.field(0, 0, 1), 2);
        Check.same("its S stay", x.count(3), 2);
        Check.lay(x, "say 7; say 8;");
        Check.same("the first bytes alone", x.text(0, 2, 6), 1);
        Check.same("the others are gone", x.count(2), 0);
        Check.same("the new one", x.field(0, 0, 0), 7);
        Check.same("the new one's length", x.fields(0, 0), 1);
        Check.lay(x, "say 7; say 8;");
        Check.same("no bytes", x.text(0, 2, 0), 0);
        Check.same("no bytes are left", x.count(2), 0);
        Check.same("an empty text", x.fields(0, 0), 0);
    }

    private static void wrongInputs() {
        ReplayHouse x = new ReplayHouse();
        Check.lay(x, "say 1;");
        Class<IllegalArgumentException> due = IllegalArgumentException.class;
        Check.fails("version -1", due, () -> x.text(-1, 0, 6));
        Check.fails("version 2", due, () -> x.text(2, 0, 6));
        Check.fails("kind -1", due, () -> x.text(0, -1, 6));
        Check.fails("kind 4", due, () -> x.text(0, 4, 6));
        Check.fails("n -1", due, () -> x.text(0, 0, -1));
        Check.fails("n 21", due, () -> x.text(0, 0, 21));
        Check.fails("n greatest", due, () -> x.text(0, 0, Integer.MAX_VALUE));
        Check.same("the tape stays", x.count(2), 20);
        Check.same("and is a text", x.text(1, 3, 6), 1);
    }
}
