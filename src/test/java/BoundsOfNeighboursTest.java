import java.util.NoSuchElementException;

/** The boundaries of promises 19 to 22 and of "Terms", part 3: what touches what, and the last ten. */
public final class BoundsOfNeighboursTest {
    private static final int MIN = Integer.MIN_VALUE;
    private static final int MAX = Integer.MAX_VALUE;
    private static final Class<NoSuchElementException> NO_ASK = NoSuchElementException.class;

    public static void main(String[] args) {
        touchByEachPairOfKeys();
        touchByReadsAlone();
        touchByCause();
        touchByVersion0();
        oneDoesNotTouchItself();
        freeFrom0To29();
        smallWithout();
        noneAhead();
        lastTen();
        lastTenAsTheyAreDone();
        behindItNever();
        fewestFirst();
        theGreatestNumber();
        smallIsDifferentAnywhere();
        lengthsCountInTrials();
        trialsOfBothVersions();
        onlyWhatIsAlwaysInIsKept();
        askedInAnyOrder();
        noiseOfAsk0();
        whichOfThem();
        asksThatAreThere();
        Check.close("BoundsOfNeighboursTest");
    }

    private static void touchByEachPairOfKeys() {
        ReplayHouse x = new ReplayHouse();
        Check.set(x, 0, 0, "put a 1;");
        Check.set(x, 0, 1, "say get a;");
        for (int key = 0; key < 8; key++) {
            x.ask(0, key, 0, key);
            x.ask(1, key, 0, 50 - key);
        }
        for (int one = 0; one < 8; one++) {
            for (int other = 0; other < 8; other++) {
                Check.same("puts " + one + ", gets " + other, x.touch(2 * one, 2 * other + 1), one == other);
                Check.same("gets " + one + ", puts " + other, x.touch(2 * one + 1, 2 * other), one == other);
            }
        }
        ReplayHouse y = new ReplayHouse();
        Check.set(y, 0, 0, "put a 1;");
        for (int key = 0; key < 16; key++) {
            y.ask(0, key, 0, 0);
        }
        for (int key = 1; key < 16; key++) {
            Check.same("puts 0, puts " + key, y.touch(0, key), key == 8);
            Check.same("puts 7, puts " + (key - 1), y.touch(key - 1, 7), key - 1 == 15);
        }
    }

    private static void touchByReadsAlone() {
        ReplayHouse x = new ReplayHouse();
        Check.set(x, 0, 0, "say get 3;");
        Check.set(x, 0, 1, "when get 3 (put 3 get 3;)");
        x.ask(0, 0, 0, 0);
        x.ask(1, 0, 0, 0);
        Check.same("both get", x.touch(0, 1), false);
        Check.same("free", x.free(0), 1);
        x.begin(3, 1);
        Check.same("one puts", x.touch(0, 1), true);
        Check.same("the other way round", x.touch(1, 0), true);
        Check.same("not free", x.free(1), 0);
    }

    private static void touchByCause() {
        ReplayHouse x = new ReplayHouse();
        for (int i = 0; i < 4; i++) {
            x.ask(0, 0, 0, 9 - i);
        }
        Check.same("not yet", x.touch(3, 0), false);
        x.caused(3, 0, 7);
        x.caused(2, 0, 0);
        Check.same("caused", x.touch(3, 0), true);
        Check.same("has caused", x.touch(0, 3), true);
        Check.same("by the same one", x.touch(2, 3), false);
        x.caused(1, 0, 0);
        x.caused(2, 1, 0);
        Check.same("by one that was caused", x.touch(2, 0), false);
        Check.same("by the next", x.touch(2, 1), true);
        x.caused(3, -1, 0);
        Check.same("no more", x.touch(3, 0), false);
        Check.same("free of all", x.free(3), 3);
    }

    private static void touchByVersion0() {
        ReplayHouse x = new ReplayHouse();
        Check.set(x, 1, 0, "put 0 get 0;");
        x.ask(0, 0, 0, 0);
        x.ask(0, 0, 0, 0);
        Check.same("not by version 1", x.touch(0, 1), false);
        Check.set(x, 0, 0, "put 0 get 0;");
        Check.set(x, 1, 0, "");
        Check.same("by version 0", x.touch(0, 1), true);
    }

    private static void oneDoesNotTouchItself() {
        ReplayHouse x = new ReplayHouse();
        Check.set(x, 0, 0, "put 0 get 0;");
        for (int i = 0; i < 30; i++) {
            x.ask(0, 0, 0, 0);
            Check.same("itself " + i, x.touch(i, i), false);
        }
        Check.same("the others", x.touch(0, 29), true);
    }

    private static void freeFrom0To29() {
        for (int asks = 1; asks <= 30; asks++) {
            ReplayHouse x = new ReplayHouse();
            for (int i = 0; i < asks; i++) {
                x.ask(0, 0, 0, i);
            }
            Check.same("free of all others", x.free(asks - 1), asks - 1);
            Check.same("free of all others", x.free(0), asks - 1);
            Check.set(x, 0, 0, "put 5 5;");
            Check.same("free of none", x.free(asks - 1), 0);
            Check.same("free of none", x.free(0), 0);
        }
    }

    private static void smallWithout() {
        ReplayHouse x = new ReplayHouse();
        Check.tellBoth(x, 0, "say a;");
        x.ask(0, 1, 0, 0);
        x.ask(0, 2, 0, 0);
        for (int k : new int[] {-1, 0, 1, MIN, MAX}) {
            Check.same("not different: " + k, x.smallest(1, k), -1);
        }
        Check.same("not different", x.small(1), -1);
        Check.set(x, 1, 0, "say b;");
        Check.same("different", x.small(1), 0);
        x.noise(0, 0, true);
        Check.same("but for noise", x.small(1), -1);
    }

    private static void noneAhead() {
        ReplayHouse x = new ReplayHouse();
        Check.set(x, 1, 0, "say 1;");
        x.ask(0, 0, 0, 0);
        Check.same("needs none", x.small(0), 0);
        for (int k : new int[] {-1, 0, 1, MIN, MAX}) {
            Check.same("has none: " + k, x.smallest(0, k), -1);
        }
    }

    /** Asks that each add 1, and one of kind 1 behind them that says in one version alone what there is. */
    private static ReplayHouse adding(int version, int ahead, String says) {
        ReplayHouse x = new ReplayHouse();
        Check.tellBoth(x, 0, "put 0 get 0+1;");
        Check.set(x, 1 - version, 1, "say 0;");
        Check.set(x, version, 1, "say " + says + ";");
        for (int i = 0; i < ahead; i++) {
            x.ask(0, 0, 0, i);
        }
        x.ask(1, 0, 0, 99);
        return x;
    }

    private static void smallIs(String what, ReplayHouse x, int ask, int from, int to) {
        Check.same(what + ": small", x.small(ask), to - from);
        for (int k = 0; k < to - from; k++) {
            Check.same(what + ": smallest " + k, x.smallest(ask, k), from + k);
        }
        Check.same(what + ": none behind", x.smallest(ask, to - from), -1);
        Check.same(what + ": none ahead", x.smallest(ask, -1), -1);
    }

    private static void lastTen() {
        for (int ahead = 1; ahead <= 29; ahead++) {
            for (int version = 0; version < 2; version++) {
                int from = Math.max(0, ahead - 10);
                smallIs("all of " + ahead, adding(version, ahead, ahead + "=get 0"), ahead, from, ahead);
                smallIs("one of " + ahead, adding(version, ahead, "0<get 0"), ahead, 0, from == 0 ? 1 : 0);
                if (ahead >= 2) {
                    int two = Math.max(0, 2 - from);
                    smallIs("two of " + ahead, adding(version, ahead, "1<get 0"), ahead, from, from + two);
                }
            }
        }
    }

    /** Numbers run against ticks, so that the last ten done are the ten lowest but one. */
    private static void lastTenAsTheyAreDone() {
        ReplayHouse x = new ReplayHouse();
        Check.tellBoth(x, 0, "put 0 get 0+1;");
        Check.set(x, 0, 1, "say 0;");
        Check.set(x, 1, 1, "say 12=get 0;");
        x.ask(1, 0, 0, 100000);
        for (int i = 1; i <= 12; i++) {
            x.ask(0, 0, 0, 50 - i);
        }
        Check.same("ten", x.small(0), 10);
        for (int k = 0; k < 10; k++) {
            Check.same("the " + k + "th done", x.smallest(0, k), 10 - k);
        }
        Check.same("no more", x.smallest(0, 10), -1);
        Check.set(x, 1, 1, "say 2<get 0;");
        Check.same("one beside the two that are always in", x.small(0), 1);
        Check.same("the first done of the ten", x.smallest(0, 0), 10);
    }

    private static void behindItNever() {
        ReplayHouse x = adding(1, 2, "get 0");
        x.ask(0, 0, 0, 100);
        x.ask(0, 0, 0, 99);
        smallIs("two behind", x, 2, 0, 1);
        Check.same("they are not different", x.small(3), -1);
        ReplayHouse y = new ReplayHouse();
        Check.tellBoth(y, 0, "put 0 get 0+1;");
        Check.set(y, 1, 1, "when get 0 (say 1;)");
        y.ask(1, 0, 0, 5);
        y.ask(0, 0, 0, 5);
        Check.same("one of the same tick behind it", y.small(0), -1);
        y.ask(0, 0, 0, 4);
        smallIs("one a tick ahead", y, 0, 2, 3);
    }

    private static void fewestFirst() {
        for (int least = 0; least <= 10; least++) {
            smallIs("at least " + least, adding(least % 2, 10, least + "<get 0+1"), 10, 0, least);
        }
    }

    /** Each pair of ten can be the only one; where there are two, the one with the earlier first wins. */
    private static void theGreatestNumber() {
        for (int one = 0; one < 10; one++) {
            for (int other = one + 1; other < 10; other++) {
                ReplayHouse x = only(one, other, 2);
                Check.same(one + " and " + other, x.small(10), 2);
                Check.same("the first", x.smallest(10, 0), one);
                Check.same("the second", x.smallest(10, 1), other);
                Check.same("no third", x.smallest(10, 2), -1);
                ReplayHouse y = only(one, other, 1);
                Check.same("either " + one + " or " + other, y.small(10), 1);
                Check.same("the one that is done first", y.smallest(10, 0), one);
            }
        }
        ReplayHouse x = new ReplayHouse();
        Check.tellBoth(x, 0, "put a get a+1;");
        Check.set(x, 0, 1, "say 0;");
        Check.set(x, 1, 1, "say get 1*get 2+(get 3*get 4);");
        for (int key : new int[] {3, 1, 2, 4}) {
            x.ask(0, key, 0, 0);
        }
        x.ask(1, 0, 0, 1);
        Check.same("two pairs", x.small(4), 2);
        Check.same("the pair with the first done", x.smallest(4, 0), 0);
        Check.same("though its second is the last", x.smallest(4, 1), 3);
    }

    private static ReplayHouse only(int one, int other, int need) {
        ReplayHouse x = new ReplayHouse();
        Check.tellBoth(x, 0, "put 0 get 0+a;");
        Check.set(x, 0, 1, "say 0;");
        Check.set(x, 1, 1, "say " + (need - 1) + "<get 0;");
        for (int i = 0; i < 10; i++) {
            x.ask(0, i == one || i == other ? 1 : 0, 0, i);
        }
        x.ask(1, 0, 0, 10);
        return x;
    }

    /** Still different may be at another field than with all. */
    private static void smallIsDifferentAnywhere() {
        ReplayHouse x = new ReplayHouse();
        Check.tellBoth(x, 0, "put 0 get 0+1;");
        Check.set(x, 0, 1, "say 0;say 0;");
        Check.set(x, 1, 1, "say get 0=2;say get 0=1;");
        x.ask(0, 0, 0, 0);
        x.ask(0, 0, 0, 1);
        x.ask(1, 0, 0, 2);
        Check.same("at field 0 with all", x.differs(2), 0);
        smallIs("at field 1 with one", x, 2, 0, 1);
        x.noise(1, 1, true);
        smallIs("field 1 is noise", x, 2, 0, 2);
    }

    private static void lengthsCountInTrials() {
        ReplayHouse x = new ReplayHouse();
        Check.tellBoth(x, 0, "put 0 get 0+1;");
        Check.set(x, 0, 1, "say 0;");
        Check.set(x, 1, 1, "say get 0=2;when get 0=1 (say 5;)");
        x.ask(0, 0, 0, 0);
        x.ask(0, 0, 0, 1);
        x.ask(1, 0, 0, 2);
        for (int field = 1; field < 8; field++) {
            x.noise(1, field, true);
        }
        smallIs("a length is no field", x, 2, 0, 1);
    }

    /** The asks ahead do unlike things in both versions; the others ahead do nothing. */
    private static void trialsOfBothVersions() {
        for (int version = 0; version < 2; version++) {
            ReplayHouse x = new ReplayHouse();
            Check.set(x, version, 0, "put 0 5;");
            Check.set(x, 1 - version, 0, "put 0 6;");
            Check.tellBoth(x, 1, "say get 0;");
            x.ask(2, 0, 0, 0);
            x.ask(0, 0, 0, 1);
            x.ask(2, 0, 0, 2);
            x.ask(1, 0, 0, 9);
            smallIs("the one that puts", x, 3, 1, 2);
            for (int i = 0; i < 9; i++) {
                x.ask(2, 0, 0, 3);
            }
            smallIs("always in", x, 3, 0, 0);
            Check.same("different", x.differs(3), 0);
        }
    }

    /** What is in by turns must leave nothing to the next trial: no value, no id, no answer. */
    private static void onlyWhatIsAlwaysInIsKept() {
        for (int version = 0; version < 2; version++) {
            ReplayHouse x = new ReplayHouse();
            Check.tellBoth(x, 0, "put 1 id;say 7;");
            Check.tellBoth(x, 2, "when a=7 (put 0 get 0+1;)");
            Check.set(x, 1 - version, 1, "say 0;");
            Check.set(x, version, 1, "say (get 0=1)*(get 1=13)*(id=14);");
            for (int i = 0; i < 13; i++) {
                x.ask(0, 0, 0, i);
            }
            x.ask(2, 0, 0, 13);
            x.caused(13, 12, 0);
            x.ask(1, 0, 0, 14);
            smallIs("all thirteen ids, then the one that was caused", x, 14, 4, 14);
        }
    }

    private static void askedInAnyOrder() {
        int[][] orders = {
            {0, 1, 2, 3, 4, 5}, {5, 4, 3, 2, 1, 0}, {3, 0, 5, 1, 4, 2}, {0, 5, 0, 4, 4, 3}, {2, 3, 2, 1, 0, 5}
        };
        int[] due = {5, 4, 3, 2, 1, 0};
        for (int[] order : orders) {
            ReplayHouse x = new ReplayHouse();
            Check.set(x, 0, 0, "put 0 get 0+1;say 0;");
            Check.set(x, 1, 0, "put 0 get 0+1;say get 0=b;");
            for (int i = 0; i < 6; i++) {
                x.ask(0, 0, 6 - i, 6 - i);
            }
            for (int ask : order) {
                Check.same("ask " + ask + " needs all ahead", x.small(ask), due[ask]);
                Check.same("the first of them", x.smallest(ask, 0), ask == 5 ? -1 : 5);
                Check.same("the last of them", x.smallest(ask, due[ask] - 1), ask == 5 ? -1 : ask + 1);
            }
        }
    }

    private static void noiseOfAsk0() {
        ReplayHouse x = new ReplayHouse();
        Check.tellBoth(x, 0, "put 0 get 0+1;");
        Check.set(x, 0, 1, "say id-1;say 0;");
        Check.set(x, 1, 1, "say 0<get 0;say 1<get 0;");
        x.ask(1, 0, 0, 9);
        x.ask(0, 0, 0, 1);
        x.ask(0, 0, 0, 2);
        smallIs("one", x, 0, 1, 2);
        x.noise(1, 0, true);
        smallIs("both", x, 0, 1, 3);
        x.noise(1, 0, false);
        smallIs("one again", x, 0, 1, 2);
        Check.same("learnt", x.learn(), 1);
        smallIs("both again", x, 0, 1, 3);
    }

    private static void whichOfThem() {
        ReplayHouse x = adding(0, 29, "29=get 0");
        for (int k : new int[] {MIN, -2, -1, 10, 11, 31, 32, MAX}) {
            Check.same("without: " + k, x.smallest(29, k), -1);
        }
        Check.same("the first of ten", x.smallest(29, 0), 19);
        Check.same("the last of ten", x.smallest(29, 9), 28);
    }

    private static void asksThatAreThere() {
        for (int asks : new int[] {0, 1, 29, 30}) {
            ReplayHouse x = new ReplayHouse();
            for (int i = 0; i < asks; i++) {
                x.ask(0, 0, 0, 0);
            }
            for (int ask : new int[] {-1, asks, asks + 1, 31, MIN, MAX}) {
                Check.fails("touch " + ask, NO_ASK, () -> x.touch(ask, 0));
                Check.fails("touch of " + ask, NO_ASK, () -> x.touch(0, ask));
                Check.fails("touch twice " + ask, NO_ASK, () -> x.touch(ask, ask));
                Check.fails("free " + ask, NO_ASK, () -> x.free(ask));
                Check.fails("small " + ask, NO_ASK, () -> x.small(ask));
                Check.fails("smallest " + ask, NO_ASK, () -> x.smallest(ask, 0));
                Check.fails("smallest " + ask, NO_ASK, () -> x.smallest(ask, -1));
            }
            if (asks > 0) {
                Check.same("touch", x.touch(asks - 1, 0), false);
                Check.same("free", x.free(asks - 1), asks - 1);
                Check.same("small", x.small(asks - 1), -1);
                Check.same("smallest", x.smallest(asks - 1, 0), -1);
            }
        }
    }
}
