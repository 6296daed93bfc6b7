/** The boundaries of promises 23 and 24 and of "Terms", part 4: waits, ticks that are cut, counts. */
public final class BoundsOfLagTest {
    private static final int MIN = Integer.MIN_VALUE;
    private static final int MAX = Integer.MAX_VALUE;
    private static final Class<IllegalArgumentException> WRONG = IllegalArgumentException.class;

    public static void main(String[] args) {
        noAsks();
        ratesFrom1To1000();
        oneTickAtLeast();
        whenTakesTicksToo();
        beginsWhenTheOneAheadEnds();
        ticksAreCut();
        greatestTicks();
        theGreatestWait();
        asTheyAreDone();
        countsOfWhat();
        Check.close("BoundsOfLagTest");
    }

    private static void noAsks() {
        ReplayHouse x = new ReplayHouse();
        Check.same("no asks", x.lag(0, 1, 1), 0);
        Check.same("no asks", x.lag(1, 1000, 1), 0);
        x.ask(0, 0, 0, 0);
        Check.same("one", x.lag(0, 1, 1), 0);
        x.ask(0, 0, 0, 0);
        Check.same("two", x.lag(0, 1, 1), 1);
    }

    private static void ratesFrom1To1000() {
        ReplayHouse x = new ReplayHouse();
        int[] wrong = {0, -1, 1001, -1000, MIN, MAX};
        for (int rate : wrong) {
            for (int fits : new int[] {1, 2, 999, 1000}) {
                Check.fails("p " + rate, WRONG, () -> x.lag(0, rate, fits));
                Check.fails("q " + rate, WRONG, () -> x.lag(1, fits, rate));
                Check.fails("p and q " + rate, WRONG, () -> x.lag(0, rate, rate));
            }
        }
        for (int p : new int[] {1, 2, 999, 1000}) {
            for (int q : new int[] {1, 2, 999, 1000}) {
                Check.same(p + " by " + q, x.lag(0, p, q), 0);
                for (int version : new int[] {-1, 2, MIN, MAX}) {
                    Check.fails("version " + version, WRONG, () -> x.lag(version, p, q));
                }
            }
        }
    }

    private static void oneTickAtLeast() {
        for (int steps = 0; steps <= 30; steps++) {
            ReplayHouse x = new ReplayHouse();
            Check.set(x, 1, 2, "say 1;".repeat(steps));
            for (int i = 0; i < 30; i++) {
                x.ask(2, 0, 0, 7);
            }
            Check.same("29 of " + steps, x.lag(1, 1, 1), 29 * Math.max(1, steps));
            Check.same("29 of none", x.lag(0, 1, 1), 29);
        }
    }

    private static void whenTakesTicksToo() {
        for (int a = 0; a < 2; a++) {
            ReplayHouse x = new ReplayHouse();
            Check.set(x, 0, 0, "when a (say 1;when 0 (say 2;) say 3;)");
            x.ask(0, a, 0, 0);
            x.ask(0, a, 0, 0);
            Check.same("when " + a, x.lag(0, 1, 1), a == 0 ? 1 : 4);
        }
    }

    private static void beginsWhenTheOneAheadEnds() {
        for (int tick = 0; tick <= 6; tick++) {
            ReplayHouse x = new ReplayHouse();
            Check.set(x, 0, 0, "say 1;".repeat(4));
            x.ask(0, 0, 0, 0);
            x.ask(0, 0, 0, tick);
            Check.same("4 ticks, then at " + tick, x.lag(0, 1, 1), Math.max(0, 4 - tick));
        }
    }

    private static void ticksAreCut() {
        for (int tick = 0; tick <= 12; tick++) {
            for (int p = 1; p <= 4; p++) {
                for (int q = 1; q <= 4; q++) {
                    ReplayHouse x = new ReplayHouse();
                    Check.set(x, 0, 0, "say 1;".repeat(30));
                    x.ask(0, 0, 0, 0);
                    x.ask(0, 0, 0, tick);
                    int due = Math.max(0, 30 - (int) Math.floor((double) tick * p / q + 1e-9));
                    Check.same(tick + " by " + p + " / " + q, x.lag(0, p, q), due);
                }
            }
        }
        for (int tick : new int[] {0, 1, 999, 1000, 1001, 1999, 2000, 29999, 30000, 99999, 100000}) {
            ReplayHouse x = new ReplayHouse();
            Check.set(x, 0, 0, "say 1;".repeat(30));
            x.ask(0, 0, 0, 0);
            x.ask(0, 0, 0, tick);
            Check.same(tick + " by 1 / 1000", x.lag(0, 1, 1000), Math.max(0, 30 - tick / 1000));
        }
    }

    private static void greatestTicks() {
        ReplayHouse x = new ReplayHouse();
        Check.set(x, 0, 0, "say 1;".repeat(30));
        x.ask(0, 0, 0, 100000);
        x.ask(0, 0, 0, 99999);
        Check.same("1000 apart", x.lag(0, 1000, 1), 0);
        Check.same("29 apart", x.lag(0, 29, 1), 1);
        Check.same("30 apart", x.lag(0, 30, 1), 0);
        Check.same("at 100000 and 99999", x.lag(0, 1000, 1000), 29);
        Check.same("at 100 and 99", x.lag(0, 1, 1000), 29);
        Check.same("at 100 both", x.lag(0, 1, 999), 30);
        for (int i = 2; i < 30; i++) {
            x.ask(0, 0, 0, 100000);
        }
        Check.same("28 wait behind the first", x.lag(0, 1000, 1), 28 * 30);
    }

    private static void theGreatestWait() {
        ReplayHouse x = new ReplayHouse();
        Check.set(x, 0, 0, "say 1;".repeat(5));
        for (int tick : new int[] {0, 0, 0, 100, 101}) {
            x.ask(0, 0, 0, tick);
        }
        Check.same("an early wait is the greatest", x.lag(0, 1, 1), 10);
        x.ask(0, 0, 0, 101);
        x.ask(0, 0, 0, 101);
        Check.same("a late one is", x.lag(0, 1, 1), 14);
    }

    private static void asTheyAreDone() {
        ReplayHouse x = new ReplayHouse();
        Check.set(x, 0, 0, "say 1;".repeat(6));
        x.ask(0, 0, 0, 2);
        x.ask(1, 0, 0, 2);
        x.ask(1, 0, 0, 0);
        Check.same("by tick, then by number", x.lag(0, 1, 1), 6);
        ReplayHouse y = new ReplayHouse();
        Check.set(y, 0, 0, "say 1;".repeat(6));
        y.ask(1, 0, 0, 2);
        y.ask(0, 0, 0, 2);
        Check.same("the long one is the last", y.lag(0, 1, 1), 1);
    }

    private static void countsOfWhat() {
        ReplayHouse x = new ReplayHouse();
        for (int what : new int[] {-1, 4, 5, -2, MIN, MAX}) {
            Check.same("no count " + what, x.count(what), -1);
        }
        for (int what = 0; what < 4; what++) {
            Check.same("count " + what, x.count(what), 0);
        }
        for (int i = 0; i < 8; i++) {
            Check.set(x, i / 4, i % 4, "say 1;".repeat(30));
            Check.same("30 each", x.count(3), 30 * i + 30);
        }
        Check.set(x, 1, 3, "when 0 (say 1;)");
        Check.same("those within when, too", x.count(3), 212);
        for (int i = 0; i < 31; i++) {
            x.ask(0, 0, 0, 0);
            x.noise(i / 8, i % 8, true);
        }
        x.noise(3, 7, true);
        for (int i = 0; i < 21; i++) {
            x.feed(0, 0, 0, 0, 0);
        }
        int[] due = {30, 32, 400, 212};
        for (int what = 0; what < 4; what++) {
            Check.same("count " + what, x.count(what), due[what]);
        }
        for (int what : new int[] {-1, 4, MIN, MAX}) {
            Check.same("no count " + what, x.count(what), -1);
        }
    }
}
