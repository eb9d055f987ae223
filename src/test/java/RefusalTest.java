import java.util.ArrayList;
import java.util.List;

/** "Calls that are refused answer, the first of these that fits ... They change nothing." */
public final class RefusalTest {
    private static final int UNKNOWN = -1, OUTSIDE = -2, STATE = -3, FULL = -4, NO = -5, NONE = -6;
    private static final int[] BESIDE = {Integer.MIN_VALUE, -3, -1, Integer.MAX_VALUE};

    private static final Check check = new Check();

    private interface Call {
        int on(StageCount x);
    }

    /** A call that a stage with a PLAY refuses. */
    private static final class Refused {
        final String play;
        final String name;
        final Call call;
        final int answer;

        Refused(String play, String name, Call call, int answer) {
            this.play = play;
            this.name = name;
            this.call = call;
            this.answer = answer;
        }
    }

    private static final String STANDS = "AB.C.aD.b.E", EMPTY = "", FULL_PAD = "AB.C.aD.b." + Check.dots(30);

    private final List<Refused> all = new ArrayList<>();

    public static void main(String[] args) {
        RefusalTest test = new RefusalTest();
        test.collectOrder();
        test.collectUnknown();
        test.collectOutside();
        test.collectStateAndFull();
        test.collectOfLines("A.*", NO);
        test.collectOfLines("A.?*", NO);
        test.collectOfLines("????", NO);
        test.collectOfLines("A.?", STATE);
        test.collectOfLines("A.A?", STATE);
        test.collectOfLines("A.A", NO);
        test.collectOfLines("AB.c", NO);
        for (Refused refused : test.all) {
            isRefused(refused);
            changesNothing(refused);
        }
        everyNumberIsAnswered();
        check.end();
    }

    private void add(String play, String name, Call call, int answer) {
        all.add(new Refused(play, name, call, answer));
    }

    /** "the first of these that fits: UNKNOWN .., OUTSIDE .., NO .., STATE .., FULL ..; where a call names them in another order, in that" */
    private void collectOrder() {
        add(FULL_PAD, "say: OUTSIDE ahead of FULL", x -> x.say(32), OUTSIDE);
        add(EMPTY, "scene: OUTSIDE ahead of FULL", x -> x.scene(256), OUTSIDE);
        add(EMPTY, "seen: OUTSIDE ahead of FULL", x -> x.seen(40, 0), OUTSIDE);
        add(EMPTY, "may: UNKNOWN ahead of OUTSIDE", x -> x.may(8, 0, 3), UNKNOWN);
        add(EMPTY, "may of one: UNKNOWN ahead of OUTSIDE", x -> x.may(2, 2, -1), UNKNOWN);
        add("*", "judge: OUTSIDE ahead of NO", x -> x.judge(3), OUTSIDE);
        add("?", "judge: OUTSIDE ahead of STATE", x -> x.judge(3), OUTSIDE);
        add("?*", "judge: NO by a FAULT ahead of STATE", x -> x.judge(0), NO);
        add("AA?", "judge: STATE ahead of NO by an EVENT", x -> x.judge(2), STATE);
        add("*", "on: NO ahead of OUTSIDE", x -> x.on(7), NO);
        add("?", "on: STATE ahead of OUTSIDE", x -> x.on(7), STATE);
        add("*", "lines: UNKNOWN ahead of NO", x -> x.lines(8), UNKNOWN);
        add("?", "lines: UNKNOWN ahead of STATE", x -> x.lines(8), UNKNOWN);
        add("*", "strangers: NO ahead of OUTSIDE", x -> x.strangers(17), NO);
        add("?", "strangers: STATE ahead of OUTSIDE", x -> x.strangers(17), STATE);
        add("*", "cast: UNKNOWN ahead of NO", x -> x.cast(8), UNKNOWN);
        add("?", "cast: UNKNOWN ahead of STATE", x -> x.cast(8), UNKNOWN);
        add(STANDS, "ill: UNKNOWN ahead of OUTSIDE", x -> x.ill(8, 40), UNKNOWN);
        add("*", "ill: UNKNOWN ahead of NO", x -> x.ill(8, 0), UNKNOWN);
        add("?", "ill: UNKNOWN ahead of STATE", x -> x.ill(8, 0), UNKNOWN);
        add("*", "ill: NO ahead of OUTSIDE", x -> x.ill(0, 40), NO);
        add("?", "ill: STATE ahead of OUTSIDE", x -> x.ill(0, 40), STATE);
        add(EMPTY, "restore: OUTSIDE ahead of STATE", x -> x.restore(2), OUTSIDE);
    }

    /** "UNKNOWN -1 (there is no such PART, SCENE)" */
    private void collectUnknown() {
        for (int part : BESIDE) {
            if (part != -1) {
                add(STANDS, "lines(" + part + ")", x -> x.lines(part), UNKNOWN);
                add(STANDS, "cast(" + part + ")", x -> x.cast(part), UNKNOWN);
            }
            add(STANDS, "may(" + part + ", 1, 0)", x -> x.may(part, 1, 0), UNKNOWN);
            add(STANDS, "may(1, " + part + ", 0)", x -> x.may(1, part, 0), UNKNOWN);
            add(STANDS, "ill(" + part + ", 0)", x -> x.ill(part, 0), UNKNOWN);
        }
        add(STANDS, "cast(-2)", x -> x.cast(-2), UNKNOWN);
        add(STANDS, "lines(8)", x -> x.lines(8), UNKNOWN);
        add(STANDS, "cast(8)", x -> x.cast(8), UNKNOWN);
        add(STANDS, "may(0, 8, 0)", x -> x.may(0, 8, 0), UNKNOWN);
        add(STANDS, "may(0, 0, 0)", x -> x.may(0, 0, 0), UNKNOWN);
        add(STANDS, "may(7, 7, 2)", x -> x.may(7, 7, 2), UNKNOWN);
        add(STANDS, "ill(8, 0)", x -> x.ill(8, 0), UNKNOWN);
    }

    /** "OUTSIDE -2 (another number is not as told)" */
    private void collectOutside() {
        for (int v : BESIDE) {
            add(STANDS, "set(0, " + v + ")", x -> x.set(0, v), OUTSIDE);
            add(STANDS, "set(1, " + v + ")", x -> x.set(1, v), OUTSIDE);
            add(STANDS, "set(2, " + v + ")", x -> x.set(2, v), OUTSIDE);
            add(STANDS, "set(" + v + ", 0)", x -> x.set(v, 0), OUTSIDE);
            add(STANDS, "say(" + v + ")", x -> x.say(v), OUTSIDE);
            add(STANDS, "judge(" + v + ")", x -> x.judge(v), OUTSIDE);
            add(STANDS, "on(" + v + ")", x -> x.on(v), OUTSIDE);
            add(STANDS, "may(0, 1, " + v + ")", x -> x.may(0, 1, v), OUTSIDE);
            add(STANDS, "strangers(" + v + ")", x -> x.strangers(v), OUTSIDE);
            add(STANDS, "ill(0, " + v + ")", x -> x.ill(0, v), OUTSIDE);
            add(STANDS, "scene(" + v + ")", x -> x.scene(v), OUTSIDE);
            add(STANDS, "seen(0, " + v + ")", x -> x.seen(0, v), OUTSIDE);
            add(STANDS, "seen(" + v + ", 0)", x -> x.seen(v, 0), OUTSIDE);
            add(STANDS, "evening(" + v + ", 1, 0)", x -> x.evening(v, 1, 0), OUTSIDE);
            add(STANDS, "evening(0, " + v + ", 0)", x -> x.evening(0, v, 0), OUTSIDE);
            add(STANDS, "evening(0, 1, " + v + ")", x -> x.evening(0, 1, v), OUTSIDE);
            add(STANDS, "image(" + v + ")", x -> x.image(v), OUTSIDE);
            add(STANDS, "restore(" + v + ")", x -> x.restore(v), OUTSIDE);
            add(STANDS, "told(" + v + ")", x -> x.told(v), OUTSIDE);
        }
        collectJustOutside();
    }

    private void collectJustOutside() {
        add(STANDS, "set(0, 3)", x -> x.set(0, 3), OUTSIDE);
        add(STANDS, "set(1, 9)", x -> x.set(1, 9), OUTSIDE);
        add(STANDS, "set(2, 10)", x -> x.set(2, 10), OUTSIDE);
        add(STANDS, "set(3, 0)", x -> x.set(3, 0), OUTSIDE);
        add(STANDS, "say(32)", x -> x.say(32), OUTSIDE);
        add(STANDS, "say(127)", x -> x.say(127), OUTSIDE);
        add(STANDS, "judge(3)", x -> x.judge(3), OUTSIDE);
        add(STANDS, "on(4)", x -> x.on(4), OUTSIDE);
        add(STANDS, "may(0, 1, 3)", x -> x.may(0, 1, 3), OUTSIDE);
        add(STANDS, "strangers(3)", x -> x.strangers(3), OUTSIDE);
        add(STANDS, "strangers(9)", x -> x.strangers(9), OUTSIDE);
        add(STANDS, "strangers(14)", x -> x.strangers(14), OUTSIDE);
        add(STANDS, "ill(0, 4)", x -> x.ill(0, 4), OUTSIDE);
        add(STANDS, "scene(256)", x -> x.scene(256), OUTSIDE);
        add(STANDS, "seen(40, 8)", x -> x.seen(40, 8), OUTSIDE);
        add(STANDS, "seen(39, 9)", x -> x.seen(39, 9), OUTSIDE);
        add(STANDS, "evening(10000, 99, 2)", x -> x.evening(10000, 99, 2), OUTSIDE);
        add(STANDS, "evening(9999, 100, 2)", x -> x.evening(9999, 100, 2), OUTSIDE);
        add(STANDS, "evening(9999, 0, 2)", x -> x.evening(9999, 0, 2), OUTSIDE);
        add(STANDS, "evening(9999, 99, 3)", x -> x.evening(9999, 99, 3), OUTSIDE);
        add(STANDS, "image(2)", x -> x.image(2), OUTSIDE);
        add(STANDS, "restore(2)", x -> x.restore(2), OUTSIDE);
        add(STANDS, "told(6)", x -> x.told(6), OUTSIDE);
        add(STANDS, "told(9)", x -> x.told(9), OUTSIDE);
        add(STANDS, "told(16)", x -> x.told(16), OUTSIDE);
    }

    /** "STATE -3 (as told), FULL -4" */
    private void collectStateAndFull() {
        add(STANDS, "restore(1), which was not kept", x -> x.restore(1), STATE);
        add(STANDS, "scene(0), the seventh", x -> x.scene(0), FULL);
        add(STANDS, "scene(255), the seventh", x -> x.scene(255), FULL);
        add(STANDS, "seen(0, 0), the seventh", x -> x.seen(0, 0), FULL);
        add(STANDS, "seen(39, 8), the seventh", x -> x.seen(39, 8), FULL);
        add(FULL_PAD, "say('.'), the 41st", x -> x.say('.'), FULL);
        add(FULL_PAD, "say('*'), the 41st", x -> x.say('*'), FULL);
    }

    /** What is asked of the LINES, with a PLAY that has a FAULT, a ? or what can not be. */
    private void collectOfLines(String play, int answer) {
        add(play, "judge(2)", x -> x.judge(2), answer);
        add(play, "on(0)", x -> x.on(0), answer);
        add(play, "lines(-2)", x -> x.lines(-2), answer);
        add(play, "lines(-1)", x -> x.lines(-1), answer);
        add(play, "lines(0)", x -> x.lines(0), answer);
        add(play, "broken()", x -> x.broken(), answer);
        add(play, "strangers(0)", x -> x.strangers(0), answer);
        add(play, "strangers(10)", x -> x.strangers(10), answer);
        add(play, "cuts()", x -> x.cuts(), answer);
        add(play, "cast(-1)", x -> x.cast(-1), answer);
        add(play, "cast(0)", x -> x.cast(0), answer);
        add(play, "ill(0, 0)", x -> x.ill(0, 0), answer);
    }

    /** A stage with six SCENES and SIGHTS, one IMAGE that is kept, and a PLAY. */
    private static StageCount stage(String play) {
        StageCount x = new StageCount();
        x.set(1, 5);
        x.scene(7);
        x.may(4, 5, 2);
        x.image(0);
        x.set(0, 2);
        x.set(1, 2);
        x.set(2, 3);
        x.may(0, 1, 1);
        x.may(2, 3, 2);
        for (int i = 1; i < 6; i++) {
            x.scene(200 + i);
        }
        for (int i = 0; i < 6; i++) {
            x.seen(0, Math.max(0, play.indexOf('.')));
        }
        return Check.say(x, play);
    }

    private static void isRefused(Refused refused) {
        int answer = refused.call.on(stage(refused.play));
        check.due(refused.name + " with " + refused.play, answer, refused.answer);
    }

    /** Two stages alike, one of which was asked what it refuses, answer alike whatever they are asked then. */
    private static void changesNothing(Refused refused) {
        StageCount asked = stage(refused.play);
        refused.call.on(asked);
        refused.call.on(asked);
        List<Integer> want = answersOf(stage(refused.play));
        List<Integer> got = answersOf(asked);
        check.due(refused.name + " with " + refused.play + " changes an answer", firstOther(got, want), -1);
    }

    private static int firstOther(List<Integer> got, List<Integer> want) {
        for (int i = 0; i < want.size(); i++) {
            if (!got.get(i).equals(want.get(i))) {
                return i;
            }
        }
        return -1;
    }

    private static List<Integer> answersOf(StageCount x) {
        List<Integer> answers = new ArrayList<>();
        answersOfThePlay(x, answers);
        answersOfTheRules(x, answers);
        answers.add(x.restore(1));
        answers.add(x.restore(0));
        answersOfTheRules(x, answers);
        x.forget();
        answers.add(x.fits(-1));
        answers.add(x.say('A'));
        answers.add(x.fits(-1));
        answers.add(x.wipe());
        return answers;
    }

    private static void answersOfThePlay(StageCount x, List<Integer> answers) {
        answers.add(x.fault());
        for (int i = 0; i <= 2; i++) {
            answers.add(x.judge(i));
            answers.add(x.strangers(i));
            answers.add(x.could(i));
            answers.add(x.fits(i));
        }
        answers.add(x.fits(-1));
        answers.add(x.broken());
        answers.add(x.cuts());
        for (int line = 0; line < 5; line++) {
            answers.add(x.on(line));
            answers.add(x.strangers(10 + line));
            answers.add(x.ill(1, line));
        }
        for (int part = -2; part < 8; part++) {
            answers.add(x.lines(part));
            answers.add(x.cast(part));
        }
    }

    private static void answersOfTheRules(StageCount x, List<Integer> answers) {
        for (int what = 0; what <= 15; what++) {
            answers.add(x.told(what));
        }
        for (int i = -1; i <= 6; i++) {
            answers.add(x.order(i));
        }
        for (int part = 0; part < 8; part++) {
            for (int other = 0; other < part; other++) {
                int how = x.may(part, other, 0);
                answers.add(how);
                x.may(other, part, how);
            }
        }
        answers.add(x.evening(1, 50, 0));
    }

    /** Any number is answered by each call, whatever the PLAY is: by a number of the document, and without a throw. */
    private static void everyNumberIsAnswered() {
        String[] plays = {STANDS, EMPTY, FULL_PAD, "*", "?a?b?", "????", "AA", Check.dots(40), "ABCDEFGH.abcdefgh.", "\"#$%&'()~}|{"};
        for (String play : plays) {
            for (int v : Check.WIDE) {
                StageCount x = stage(play);
                answered("with one number " + v + " of " + play, oneNumber(x, v));
                answered("with more numbers " + v + " of " + play, moreNumbers(x, v));
            }
        }
    }

    private static void answered(String name, int[] answers) {
        for (int i = 0; i < answers.length; i++) {
            check.that("answer " + i + " " + name + ": " + answers[i], answers[i] >= NONE && answers[i] <= 336);
        }
    }

    private static int[] oneNumber(StageCount x, int v) {
        return new int[] {
            x.judge(v), x.on(v), x.lines(v), x.strangers(v), x.cast(v), x.order(v), x.fits(v), x.could(v), x.told(v),
            x.say(v), x.scene(v), x.image(v), x.restore(v), x.fault(), x.broken(), x.cuts(), x.strike(), x.forget(), x.wipe()};
    }

    private static int[] moreNumbers(StageCount x, int v) {
        return new int[] {
            x.set(v, v), x.set(0, v), x.set(v, 0), x.may(v, v, v), x.may(0, v, 1), x.may(v, 1, 2), x.ill(v, v), x.ill(0, v),
            x.seen(v, v), x.seen(0, v), x.seen(v, 0), x.evening(v, v, v), x.evening(0, v, 0), x.evening(v, 1, 1)};
    }
}
