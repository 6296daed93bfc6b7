import java.util.Random;
import java.util.function.IntSupplier;

/**
 * Runs of calls drawn by a fixed seed, on the class and on the model; all answers and exceptions must be the same.
 * With two numbers, from and to, it takes other seeds than those that .ci/run takes.
 */
public final class ModelTest {
    private static final int RUNS = 1500;
    private static final int CALLS = 400;
    private static final String[] PIECES = {
        "put ", "say ", "when ", "get ", "outside ", "a", "b", "id", "(", ")", ";", "<", "=", "+", "-", "*", " ", "0",
        "1", "7", "999999", "1234567", "x", "says", "\0", "(", ";"
    };

    private final Random random;
    private final ReplayHouse house = new ReplayHouse();
    private final Model model = new Model();
    private final StringBuilder told = new StringBuilder();
    private final boolean heavy;
    private final boolean alike;

    private ModelTest(long seed) {
        random = new Random(seed);
        heavy = seed % 3 == 0;
        alike = seed % 2 == 0;
    }

    public static void main(String[] args) {
        int from = args.length == 2 ? Integer.parseInt(args[0]) : 0;
        int to = args.length == 2 ? Integer.parseInt(args[1]) : RUNS;
        for (int run = from; run < to; run++) {
            ModelTest test = new ModelTest(run);
            for (int call = 0; call < CALLS; call++) {
                if (!test.step()) {
                    Check.same("run " + run + test.told, 1, 0);
                    break;
                }
            }
            Check.same("run " + run, 0, 0);
        }
        Check.close("ModelTest");
    }

    private static String outcome(IntSupplier call) {
        try {
            return Integer.toString(call.getAsInt());
        } catch (RuntimeException e) {
            return e.getClass().getSimpleName();
        }
    }

    private boolean agree(String call, IntSupplier ofHouse, IntSupplier ofModel) {
        String got = outcome(ofHouse);
        String due = outcome(ofModel);
        told.append("\n  ").append(call).append(" answered ").append(got);
        if (!got.equals(due)) {
            told.append(", due is ").append(due);
        }
        return got.equals(due);
    }

    /** A number from 0 to below the bound, now and then one beside it. */
    private int near(int bound) {
        int dice = random.nextInt(60);
        if (dice == 0) {
            return -1;
        }
        if (dice == 1) {
            return bound;
        }
        if (dice == 2) {
            return random.nextBoolean() ? Integer.MIN_VALUE : Integer.MAX_VALUE;
        }
        return random.nextInt(bound);
    }

    private int anAsk() {
        return near(Math.max(1, house.count(0)));
    }

    private int value() {
        return random.nextInt(8) == 0 ? random.nextInt() : random.nextInt(10) - 3;
    }

    private boolean step() {
        int dice = random.nextInt(100);
        if (dice < 12) {
            return tell();
        }
        return dice < 45 ? change(random.nextInt(7)) : look(random.nextInt(17));
    }

    private boolean change(int which) {
        int a = value();
        int b = value();
        boolean is = random.nextInt(3) == 0;
        switch (which) {
            case 0:
                int key = near(8);
                return agree("begin " + key + " " + a, () -> house.begin(key, a), () -> model.begin(key, a));
            case 1:
                int argument = near(16);
                return agree("keep " + argument + " " + a, () -> house.keep(argument, a), () -> model.keep(argument, a));
            case 2:
            case 3:
                int kind = near(4);
                int tick = random.nextInt(4) == 0 ? near(100001) : near(12);
                return agree("ask " + kind + " " + a + " " + b + " " + tick,
                        () -> house.ask(kind, a, b, tick), () -> model.ask(kind, a, b, tick));
            case 4:
                int ask = anAsk();
                int by = random.nextInt(3) == 0 ? -1 : ask > 0 && ask < 31 ? near(ask) : anAsk();
                int field = random.nextInt(4) == 0 ? near(8) : random.nextInt(3);
                return agree("caused " + ask + " " + by + " " + field,
                        () -> house.caused(ask, by, field), () -> model.caused(ask, by, field));
            case 5:
                int noiseKind = near(4);
                int noiseField = random.nextInt(3) == 0 ? near(8) : random.nextInt(3);
                return agree("noise " + noiseKind + " " + noiseField + " " + is,
                        () -> house.noise(noiseKind, noiseField, is) ? 1 : 0,
                        () -> model.noise(noiseKind, noiseField, is) ? 1 : 0);
            default:
                return random.nextInt(4) > 0 || agree("learn", house::learn, model::learn);
        }
    }

    private boolean look(int which) {
        int ask = anAsk();
        int other = anAsk();
        int version = near(2);
        int what = near(4);
        switch (which) {
            case 0:
                return agree("fields " + version + " " + ask,
                        () -> house.fields(version, ask), () -> model.fields(version, ask));
            case 1:
                int field = near(8);
                return agree("field " + version + " " + ask + " " + field,
                        () -> house.field(version, ask, field), () -> model.field(version, ask, field));
            case 2:
                int key = near(8);
                return agree("end " + version + " " + key, () -> house.end(version, key), () -> model.end(version, key));
            case 3:
                return agree("touched " + version + " " + ask + " " + what,
                        () -> house.touched(version, ask, what), () -> model.touched(version, ask, what));
            case 4:
                return agree("calls " + version, () -> house.calls(version), () -> model.calls(version));
            case 5:
                return agree("never " + version + " " + what,
                        () -> house.never(version, what), () -> model.never(version, what));
            case 6:
                return agree("differs " + ask, () -> house.differs(ask), () -> model.differs(ask));
            case 7:
                return agree("shapes", house::shapes, model::shapes);
            case 8:
                int k = near(4);
                return agree("shape " + k + " " + what, () -> house.shape(k, what), () -> model.shape(k, what));
            case 9:
                return agree("touch " + ask + " " + other,
                        () -> house.touch(ask, other) ? 1 : 0, () -> model.touch(ask, other) ? 1 : 0);
            case 10:
                return agree("free " + ask, () -> house.free(ask), () -> model.free(ask));
            case 11:
                int p = near(9);
                int q = near(9);
                return agree("lag " + version + " " + p + " " + q,
                        () -> house.lag(version, p, q), () -> model.lag(version, p, q));
            case 12:
                return agree("count " + what, () -> house.count(what), () -> model.count(what));
            default:
                return random.nextInt(heavy ? 2 : 12) > 0 || lookSmall(ask);
        }
    }

    private boolean lookSmall(int ask) {
        int k = near(4);
        return agree("small " + ask, () -> house.small(ask), () -> model.small(ask))
                && agree("smallest " + ask + " " + k, () -> house.smallest(ask, k), () -> model.smallest(ask, k));
    }

    private boolean tell() {
        int kind = near(4);
        String text = drawText();
        if (alike) {
            return tell(0, kind, text) && tell(1, kind, random.nextBoolean() ? text : alter(text));
        }
        return tell(near(2), kind, random.nextInt(4) == 0 ? spoil(text) : text);
    }

    /** The text but for one sign, so that a difference may rest on what came ahead. */
    private String alter(String text) {
        String from = "0123456789+-*<=ab";
        String to = "1234567890-+-=<ba";
        int start = random.nextInt(text.length() + 1);
        for (int i = start; i < text.length(); i++) {
            int which = from.indexOf(text.charAt(i));
            boolean inWord = i > 0 && Character.isLetter(text.charAt(i - 1))
                    || i + 1 < text.length() && Character.isLetter(text.charAt(i + 1));
            if (which >= 0 && !inWord) {
                return text.substring(0, i) + to.charAt(which) + text.substring(i + 1);
            }
        }
        return text;
    }

    private boolean tell(int version, int kind, String text) {
        for (int from = 0; from < text.length(); from += 20) {
            int[] five = new int[5];
            for (int i = 0; i < 20; i++) {
                five[i / 4] = five[i / 4] << 8 | (from + i < text.length() ? text.charAt(from + i) & 255 : 0);
            }
            if (!agree("feed", () -> house.feed(five[0], five[1], five[2], five[3], five[4]), () -> model.feed(five))) {
                return false;
            }
        }
        int n = random.nextInt(40) == 0 ? near(401) : Math.min(400, text.length());
        return agree("text " + version + " " + kind + " " + n + " of '" + text + "'",
                () -> house.text(version, kind, n), () -> model.text(version, kind, n));
    }

    private String spoil(String text) {
        StringBuilder spoilt = new StringBuilder(text);
        int at = random.nextInt(text.length() + 1);
        String piece = PIECES[random.nextInt(PIECES.length)];
        if (random.nextBoolean()) {
            spoilt.insert(at, piece);
        } else if (random.nextBoolean()) {
            spoilt.setLength(at);
        } else {
            spoilt.delete(at, Math.min(text.length(), at + 1 + random.nextInt(3)));
        }
        return spoilt.toString();
    }

    private String drawText() {
        StringBuilder text = new StringBuilder();
        if (random.nextInt(12) == 0) {
            for (int i = random.nextInt(9) + 26; i > 0; i--) {
                text.append(random.nextInt(5) == 0 ? "when a()" : "say " + random.nextInt(3) + ";");
            }
            return text.toString();
        }
        steps(text, random.nextInt(6), 0);
        return text.toString();
    }

    private void blank(StringBuilder text) {
        while (random.nextInt(6) == 0) {
            text.append(' ');
        }
    }

    private void steps(StringBuilder text, int how, int deep) {
        for (int i = 0; i < how; i++) {
            blank(text);
            int dice = random.nextInt(deep == 0 ? 8 : 5 + deep / 3);
            if (alike && dice == 4) {
                text.append("say get ").append(random.nextInt(8)).append(random.nextBoolean() ? "=" : "<");
                text.append(random.nextInt(6)).append(";");
                continue;
            }
            if (dice < 3) {
                text.append("put ");
                sum(text, 0);
                text.append(' ');
                sum(text, 0);
            } else if (dice < 5) {
                text.append("say ");
                compare(text, 0);
            } else {
                text.append("when ");
                compare(text, 0);
                blank(text);
                text.append("(");
                steps(text, deep < 7 && random.nextInt(9) == 0 ? 1 : random.nextInt(4), deep + 1);
                if (deep < 7 && random.nextInt(3) == 0) {
                    text.append("when b(");
                    steps(text, 1, deep + 2);
                    text.append(")");
                }
                text.append(")");
                continue;
            }
            blank(text);
            text.append(";");
        }
        blank(text);
    }

    private void compare(StringBuilder text, int deep) {
        sum(text, deep);
        if (random.nextInt(3) == 0) {
            blank(text);
            text.append(random.nextBoolean() ? "<" : "=");
            sum(text, deep);
        }
    }

    private void sum(StringBuilder text, int deep) {
        term(text, deep);
        while (random.nextInt(4) == 0) {
            blank(text);
            text.append("+-*".charAt(random.nextInt(3)));
            term(text, deep);
        }
    }

    private void term(StringBuilder text, int deep) {
        blank(text);
        int dice = random.nextInt(60) == 0 ? 99 : random.nextInt(deep > 3 ? 7 : 12);
        if (dice < 2) {
            text.append(random.nextInt(10) == 0 ? random.nextInt(1000000) : random.nextInt(8));
        } else if (dice < 4) {
            text.append("a");
        } else if (dice < 6) {
            text.append("b");
        } else if (dice == 6) {
            text.append("id");
        } else if (dice < 10) {
            text.append("get ");
            term(text, deep + 1);
        } else if (dice == 10) {
            text.append("outside ");
            term(text, deep + 1);
        } else if (dice == 11) {
            text.append("(");
            compare(text, deep + 1);
            text.append(")");
        } else {
            deepTerm(text);
        }
    }

    /** Around the bound of twelve open ones. */
    private void deepTerm(StringBuilder text) {
        int deep = 10 + random.nextInt(4);
        int brackets = 0;
        for (int i = 0; i < deep; i++) {
            if (random.nextInt(3) == 0) {
                text.append("(");
                brackets++;
            } else {
                text.append("get ");
            }
        }
        text.append("a").append(")".repeat(brackets));
    }
}
