/** Promises 23 and 24: lag, count. */
public final class LagAndCountTest {
    public static void main(String[] args) {
        waits();
        cut();
        versions();
        wrongRates();
        counts();
        Check.close("LagAndCountTest");
    }

    private static void waits() {
        ReplayHouse x = new ReplayHouse();
        Check.tellBoth(x, 0, "say 1; when a (say 2; say 3;)");
        x.ask(0, 1, 0, 0);
        Check.same("one never waits", x.lag(0, 1, 1), 0);
        x.ask(0, 0, 0, 0);
        Check.same("4 S ahead", x.lag(0, 1, 1), 4);
        x.ask(0, 0, 0, 4);
        Check.same("6 are done by then", x.lag(0, 1, 1), 4);
        Check.same("at half the ticks", x.lag(0, 1, 2), 4);
        x.ask(0, 0, 0, 2);
        Check.same("4, 4, 4", x.lag(0, 1, 1), 4);
        Check.same("all come at 0", x.lag(0, 1, 1000), 8);
        Check.same("at twice the ticks", x.lag(0, 2, 1), 4);
        x.ask(1, 0, 0, 0);
        x.ask(1, 0, 0, 0);
        Check.same("an empty text takes one", x.lag(0, 1, 1000), 10);
    }

    private static void cut() {
        ReplayHouse x = new ReplayHouse();
        Check.tellBoth(x, 0, "say 1;say 1;say 1;");
        x.ask(0, 0, 0, 0);
        x.ask(0, 0, 0, 5);
        Check.same("5 by 2 is 2", x.lag(0, 1, 2), 1);
        Check.same("5 by 3 is 1", x.lag(0, 1, 3), 2);
        Check.same("10 by 3 is 3", x.lag(0, 2, 3), 0);
        Check.same("5000 by 1", x.lag(0, 1000, 1), 0);
        ReplayHouse y = new ReplayHouse();
        Check.tellBoth(y, 0, "say 1;say 1;");
        y.ask(0, 0, 0, 100000);
        y.ask(0, 0, 0, 100000);
        y.ask(0, 0, 0, 99999);
        Check.same("the greatest ticks", y.lag(0, 1000, 1), 2);
        Check.same("the slowest", y.lag(0, 1, 1000), 3);
        Check.same("the same", y.lag(0, 1000, 1000), 3);
    }

    private static void versions() {
        ReplayHouse x = new ReplayHouse();
        Check.set(x, 0, 0, "say 1;say 1;say 1;");
        x.ask(0, 0, 0, 0);
        x.ask(0, 0, 0, 0);
        Check.same("version 0", x.lag(0, 1, 1), 3);
        Check.same("version 1", x.lag(1, 1, 1), 1);
    }

    private static void wrongRates() {
        ReplayHouse x = new ReplayHouse();
        for (int rate : new int[] {0, -1, 1001, Integer.MAX_VALUE, Integer.MIN_VALUE}) {
            Check.fails("p " + rate, IllegalArgumentException.class, () -> x.lag(0, rate, 1));
            Check.fails("q " + rate, IllegalArgumentException.class, () -> x.lag(0, 1, rate));
        }
        Check.same("1000 and 1000", x.lag(0, 1000, 1000), 0);
    }

    private static void counts() {
        ReplayHouse x = new ReplayHouse();
        Check.set(x, 0, 0, "say 1;");
        Check.set(x, 0, 3, "say 1;say 1;");
        Check.set(x, 1, 0, "when 0 (say 1;say 1;)");
        Check.set(x, 1, 3, "say 1;say 1;say 1;say 1;");
        x.ask(0, 0, 0, 0);
        x.ask(0, 0, 0, 0);
        x.noise(3, 7, true);
        x.feed(0, 0, 0, 0, 0);
        Check.same("asks", x.count(0), 2);
        Check.same("noise", x.count(1), 1);
        Check.same("bytes", x.count(2), 20);
        Check.same("S of all texts", x.count(3), 10);
        Check.set(x, 1, 3, "");
        Check.same("S when one is gone", x.count(3), 6);
        for (int what : new int[] {-1, 4, Integer.MAX_VALUE, Integer.MIN_VALUE}) {
            Check.same("count " + what, x.count(what), -1);
        }
    }
}
