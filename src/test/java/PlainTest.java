import java.util.Random;

/** Long runs of drawn calls, each answered by the class and by PlainStage. */
public final class PlainTest {
    private static final int RUNS = 700;
    private static final int CALLS = 470;
    private static final int[] FAR = {Integer.MIN_VALUE, Integer.MAX_VALUE, -7, -6, -3, -2, -1, 41, 256, 10000, 100};

    private static final Check check = new Check();

    private final Random draws;
    private final String run;
    private final StageCount x = new StageCount();
    private final PlainStage plain = new PlainStage();

    private PlainTest(int seed) {
        draws = new Random(seed);
        run = "run " + seed + ": ";
    }

    public static void main(String[] args) {
        for (int seed = 0; seed < RUNS; seed++) {
            new PlainTest(seed).play();
        }
        check.end();
    }

    /** Of 0 to most as a rule, now and then just beside or far off. */
    private int near(int most) {
        int kind = draws.nextInt(20);
        if (kind == 0) {
            return FAR[draws.nextInt(FAR.length)];
        }
        return kind == 1 ? most + 1 : kind == 2 ? -1 : draws.nextInt(most + 1);
    }

    private void play() {
        int used = 0;
        while (used < CALLS) {
            int kind = draws.nextInt(10);
            if (kind == 0) {
                used += sayPlay();
            } else if (kind < 3) {
                change();
                used++;
            } else {
                ask(draws.nextInt(14));
                used++;
            }
        }
    }

    /** A play that mostly can be, of few or all PARTS, with more or fewer LINES. */
    private int sayPlay() {
        check.due(run + "wipe", x.wipe(), plain.wipe());
        int length = draws.nextInt(42);
        int parts = 1 + draws.nextInt(8);
        int oneLineOf = 1 + draws.nextInt(5);
        int oneAskedOf = draws.nextBoolean() ? 5000 : 3 + draws.nextInt(40);
        int oneWrongOf = draws.nextInt(3) == 0 ? 30 : 2000;
        int on = 0;
        for (int i = 0; i < length; i++) {
            int sign;
            int part = draws.nextInt(parts);
            if (draws.nextInt(oneWrongOf) == 0) {
                sign = draws.nextBoolean() ? near(126) : "ABCDEFGHabcdefgh".charAt(draws.nextInt(16));
            } else if (draws.nextInt(oneLineOf) == 0) {
                sign = '.';
            } else if (draws.nextInt(oneAskedOf) == 0) {
                sign = '?';
            } else {
                sign = ((on >> part & 1) == 1 ? 'a' : 'A') + part;
                on ^= 1 << part;
            }
            check.due(run + "say(" + sign + ")", x.say(sign), plain.say(sign));
        }
        return length + 1;
    }

    private void change() {
        int a = draws.nextBoolean() ? near(7) : draws.nextInt(3);
        int b = draws.nextBoolean() ? near(7) : draws.nextInt(3);
        int c = near(255);
        int n = near(1);
        switch (draws.nextInt(10)) {
            case 0:
                int law = near(2);
                check.due(run + "set(0, " + law + ")", x.set(0, law), plain.set(0, law));
                break;
            case 1:
                check.due(run + "set(1, " + a + ")", x.set(1, a), plain.set(1, a));
                break;
            case 2:
                check.due(run + "set(2, " + a + ")", x.set(2, a), plain.set(2, a));
                break;
            case 3:
                check.due(run + "set(" + b + ", " + a + ")", x.set(b, a), plain.set(b, a));
                break;
            case 4:
                int how = near(2);
                check.due(run + "may(" + a + ", " + b + ", " + how + ")", x.may(a, b, how), plain.may(a, b, how));
                break;
            case 5:
                check.due(run + "scene(" + c + ")", x.scene(c), plain.scene(c));
                break;
            case 6:
                changeSights();
                break;
            case 7:
                check.due(run + "image(" + n + ")", x.image(n), plain.image(n));
                break;
            case 8:
                check.due(run + "restore(" + n + ")", x.restore(n), plain.restore(n));
                break;
            default:
                if (draws.nextInt(4) == 0) {
                    check.due(run + "strike()", x.strike(), plain.strike());
                } else {
                    check.due(run + "scene(" + a + ")", x.scene(a), plain.scene(a));
                }
        }
    }

    private void changeSights() {
        if (draws.nextInt(2) == 0) {
            check.due(run + "forget()", x.forget(), plain.forget());
            return;
        }
        int line = draws.nextInt(3) == 0 ? near(39) : near(3);
        int many = near(8);
        check.due(run + "seen(" + line + ", " + many + ")", x.seen(line, many), plain.seen(line, many));
    }

    private void ask(int kind) {
        int part = near(7);
        int line = near(12);
        int what = near(2);
        switch (kind) {
            case 0:
                check.due(run + "fault()", x.fault(), plain.fault());
                break;
            case 1:
                check.due(run + "judge(" + what + ")", x.judge(what), plain.judge(what));
                break;
            case 2:
                check.due(run + "on(" + line + ")", x.on(line), plain.on(line));
                break;
            case 3:
                int of = draws.nextInt(3) == 0 ? -1 - draws.nextInt(2) : part;
                check.due(run + "lines(" + of + ")", x.lines(of), plain.lines(of));
                break;
            case 4:
                check.due(run + "broken()", x.broken(), plain.broken());
                break;
            case 5:
                int about = draws.nextBoolean() ? what : line + 10;
                check.due(run + "strangers(" + about + ")", x.strangers(about), plain.strangers(about));
                break;
            case 6:
                check.due(run + "cuts()", x.cuts(), plain.cuts());
                break;
            case 7:
                askCast(part);
                break;
            case 8:
                askIll(part, line);
                break;
            case 9:
                askOrder(near(6) - draws.nextInt(2));
                break;
            case 10:
                int i = near(3) - draws.nextInt(2);
                check.due(run + "fits(" + i + ")", x.fits(i), plain.fits(i));
                break;
            case 11:
                check.due(run + "could(" + what + ")", x.could(what), plain.could(what));
                break;
            case 12:
                int seed = near(9999);
                int m = near(99);
                check.due(run + "evening(" + seed + ", " + m + ", " + what + ")", x.evening(seed, m, what), plain.evening(seed, m, what));
                break;
            default:
                int told = draws.nextBoolean() ? near(6) : 10 + near(6);
                check.due(run + "told(" + told + ")", x.told(told), plain.told(told));
        }
    }

    /** The plain cast is dear, so it is asked for more seldom. */
    private void askCast(int part) {
        if (draws.nextInt(3) == 0) {
            int of = draws.nextBoolean() ? -1 : part;
            check.due(run + "cast(" + of + ")", x.cast(of), plain.cast(of));
        }
    }

    private void askIll(int part, int line) {
        if (draws.nextInt(2) == 0) {
            int who = draws.nextBoolean() ? part : draws.nextInt(4);
            int from = draws.nextBoolean() ? line : draws.nextInt(4);
            check.due(run + "ill(" + who + ", " + from + ")", x.ill(who, from), plain.ill(who, from));
        }
    }

    private void askOrder(int i) {
        if (draws.nextInt(4) == 0) {
            check.due(run + "order(" + i + ")", x.order(i), plain.order(i));
        }
    }
}
