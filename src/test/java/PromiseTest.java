/** For each promise of the document: ordinary inputs, the edges that it names, wrong inputs. */
public final class PromiseTest {
    private static final int UNKNOWN = -1, OUTSIDE = -2, STATE = -3, FULL = -4, NO = -5, NONE = -6;
    private static final int LEAST = Integer.MIN_VALUE, GREATEST = Integer.MAX_VALUE;
    private static final String BAD_SIGN = "A.*", ASKED = "A?.", CAN_NOT_BE = "A.A.", ASKED_AND_CAN_NOT_BE = "AA?.";

    private static final Check check = new Check();

    private static void due(String call, int got, int want) {
        check.due(call, got, want);
    }

    public static void main(String[] args) {
        promise1New();
        promise2Set();
        promise3Say();
        promise4Wipe();
        promise5Fault();
        promise6Judge();
        promise6JudgeRefuses();
        promise7On();
        promise8Lines();
        promise9May();
        promise10Broken();
        promise11Strangers();
        promise12Cuts();
        promise13Cast();
        promise14Ill();
        promise15Scene();
        promise16Strike();
        promise17Order();
        promise18Seen();
        promise19Forget();
        promise20Fits();
        promise21Could();
        promise22Evening();
        promise23Image();
        promise24Restore();
        promise25Told();
        refusalsOfLines();
        check.end();
    }

    private static void promise1New() {
        StageCount x = new StageCount();
        due("1 law", x.told(1), 0);
        due("1 K", x.told(2), 3);
        due("1 change", x.told(3), 0);
        due("1 signs", x.told(0), 0);
        due("1 scenes", x.told(4), 0);
        due("1 sights", x.told(5), 0);
        due("1 just three: two", Check.say(x, "AB.").judge(2), 0);
        due("1 just three: three", Check.say(x, "ABC.").judge(2), NONE);
        due("1 just three: four", Check.say(x, "ABCD.").judge(2), 0);
    }

    private static void promise2Set() {
        StageCount x = new StageCount();
        int[] most = {2, 8, 9};
        int[] was = {0, 3, 0};
        for (int which = 0; which < 3; which++) {
            for (int v = 0; v <= most[which]; v++) {
                due("2 set(" + which + ", " + v + ")", x.set(which, v), was[which]);
                was[which] = v;
            }
            due("2 above", x.set(which, most[which] + 1), OUTSIDE);
            due("2 far above", x.set(which, GREATEST), OUTSIDE);
            due("2 below", x.set(which, -1), OUTSIDE);
            due("2 unchanged", x.told(which + 1), most[which]);
        }
        due("2 which 3", x.set(3, 0), OUTSIDE);
        due("2 which -1", x.set(-1, 0), OUTSIDE);
        due("2 which least", x.set(LEAST, 0), OUTSIDE);
    }

    private static void promise3Say() {
        StageCount x = new StageCount();
        due("3 below", x.say(32), OUTSIDE);
        due("3 above", x.say(127), OUTSIDE);
        due("3 negative", x.say(LEAST), OUTSIDE);
        due("3 lowest", x.say(33), 1);
        due("3 highest", x.say(126), 2);
        for (int i = 3; i <= 40; i++) {
            due("3 say", x.say('.'), i);
        }
        due("3 full", x.say('.'), FULL);
        due("3 outside ahead of full", x.say(32), OUTSIDE);
        due("3 unchanged", x.told(0), 40);
        due("3 all stay", x.fault(), 0);
    }

    private static void promise4Wipe() {
        StageCount x = Check.stage("AB.");
        x.scene(1);
        x.seen(0, 2);
        due("4 three", x.wipe(), 3);
        due("4 none", x.wipe(), 0);
        due("4 scenes stay", x.told(4), 1);
        due("4 sights stay", x.told(5), 1);
        due("4 no line", x.lines(-1), 0);
        due("4 from the first on", x.say('A'), 1);
        due("4 what was is gone", x.judge(0), NONE);
    }

    private static void promise5Fault() {
        due("5 empty", new StageCount().fault(), NONE);
        due("5 all signs", Check.stage("ABCDEFGHabcdefgh.???").fault(), NONE);
        due("5 what can not be is no fault", Check.stage("aaAA").fault(), NONE);
        due("5 fourth ?", Check.stage("??.?A?.?").fault(), 5);
        due("5 the first of two", Check.stage("A.*.!").fault(), 2);
        due("5 first place", Check.stage("!A.").fault(), 0);
        String wrong = "!@I`i[Z{~/>0-,_";
        for (int i = 0; i < wrong.length(); i++) {
            due("5 sign " + wrong.charAt(i), Check.stage("A." + wrong.charAt(i)).fault(), 2);
        }
        due("5 ? ahead of a bad sign", Check.stage("????*").fault(), 3);
    }

    private static void promise6Judge() {
        StageCount x = Check.stage("ABC.a.A.bD.");
        due("6 all can be", x.judge(0), NONE);
        due("6 no why", x.judge(1), NONE);
        due("6 just three", x.judge(2), 1);
        x.set(1, 2);
        due("6 just two", x.judge(2), 0);
        x.set(0, 1);
        due("6 odd", x.judge(2), 1);
        x.set(0, 2);
        due("6 no fewer", x.judge(2), 1);
        x.set(1, 4);
        due("6 K at least at first", x.judge(2), 0);
        x.set(1, 2);
        due("6 no fewer: more", Check.say(x, "AB.C..D.E.").judge(2), NONE);
        due("6 no fewer than ahead, not than K", Check.say(x, "ABCD.a.B").judge(0), 7);
        due("6 fewer, K still", Check.say(x, "ABCD.a.").judge(2), 1);
        x.set(0, 1);
        due("6 none is not odd", Check.say(x, "A.a.").judge(2), 1);
        due("6 no line", Check.say(x, "A").judge(2), NONE);
        due("6 comes who is on", Check.say(x, "AB.A").judge(0), 3);
        due("6 why 1", x.judge(1), 1);
        due("6 goes who is not on", Check.say(x, "AB.abb").judge(0), 5);
        due("6 why 2", x.judge(1), 2);
        due("6 nobody is on at first", Check.say(x, "hH").judge(0), 0);
        due("6 the first of two", Check.say(x, "AAb").judge(1), 1);
        due("6 all come", Check.say(x, "ABCDEFGH.abcdefgh.").judge(0), NONE);
    }

    private static void promise6JudgeRefuses() {
        for (int what = 0; what <= 2; what++) {
            due("6 fault", Check.stage(BAD_SIGN).judge(what), NO);
            due("6 ?", Check.stage(ASKED).judge(what), STATE);
            due("6 ? ahead of what can not be", Check.stage(ASKED_AND_CAN_NOT_BE).judge(what), STATE);
            due("6 fault ahead of ?", Check.stage("?A.*").judge(what), NO);
            due("6 four ?", Check.stage("????").judge(what), NO);
        }
        due("6 line that can not be", Check.stage(CAN_NOT_BE).judge(2), NO);
        due("6 outside ahead of fault", Check.stage(BAD_SIGN).judge(3), OUTSIDE);
        due("6 outside ahead of ?", Check.stage(ASKED).judge(-1), OUTSIDE);
        due("6 outside", new StageCount().judge(LEAST), OUTSIDE);
    }

    private static void promise7On() {
        StageCount x = Check.stage("AH.aB.bh..CDEFG");
        due("7 line 0", x.on(0), 129);
        due("7 line 1", x.on(1), 130);
        due("7 line 2", x.on(2), 0);
        due("7 line 3", x.on(3), 0);
        due("7 no such line", x.on(4), OUTSIDE);
        due("7 negative", x.on(-1), OUTSIDE);
        due("7 greatest", x.on(GREATEST), OUTSIDE);
        due("7 no line", new StageCount().on(0), OUTSIDE);
        due("7 forty lines", Check.stage("........................................").on(39), 0);
    }

    private static void promise8Lines() {
        StageCount x = Check.stage("AB.a.A..bC");
        due("8 lines", x.lines(-1), 4);
        due("8 A", x.lines(0), 3);
        due("8 B", x.lines(1), 4);
        due("8 C comes, but has no line", x.lines(2), 0);
        due("8 H", x.lines(7), 0);
        due("8 comings", x.lines(-2), 4);
        due("8 unknown 8", x.lines(8), UNKNOWN);
        due("8 unknown -3", x.lines(-3), UNKNOWN);
        due("8 unknown ahead of no", Check.stage(BAD_SIGN).lines(8), UNKNOWN);
        due("8 unknown ahead of state", Check.stage(ASKED).lines(-3), UNKNOWN);
        due("8 last line", Check.stage("A......................................a").lines(0), 38);
        due("8 a line at each sign", Check.stage("A.......................................").lines(0), 39);
    }

    private static void promise9May() {
        StageCount x = new StageCount();
        for (int part = 0; part < 8; part++) {
            for (int other = 0; other < 8; other++) {
                if (part == other) {
                    due("9 one", x.may(part, other, 0), UNKNOWN);
                } else {
                    due("9 may at first", x.may(part, other, 1), other > part ? 0 : 2);
                    due("9 must not", x.may(other, part, 2), 1);
                }
            }
        }
        due("9 must", x.may(0, 7, 0), 2);
        due("9 may", x.may(7, 0, 0), 0);
        due("9 another pair stays", x.may(0, 6, 2), 2);
        due("9 no part", x.may(8, 0, 0), UNKNOWN);
        due("9 no other", x.may(0, 8, 0), UNKNOWN);
        due("9 negative", x.may(-1, 0, 0), UNKNOWN);
        due("9 negative other", x.may(0, LEAST, 0), UNKNOWN);
        due("9 unknown ahead of outside", x.may(1, 1, 3), UNKNOWN);
        due("9 how 3", x.may(0, 6, 3), OUTSIDE);
        due("9 how -1", x.may(0, 6, -1), OUTSIDE);
        due("9 unchanged", x.may(0, 6, 0), 2);
    }

    private static void promise10Broken() {
        StageCount x = Check.stage("A.B.a.b.C.");
        due("10 all may", x.broken(), NONE);
        x.may(0, 1, 1);
        due("10 must not", x.broken(), 1);
        x.may(0, 1, 2);
        due("10 must", x.broken(), 0);
        x.may(0, 1, 0);
        x.may(2, 1, 2);
        due("10 must, the other way", x.broken(), 1);
        x.may(2, 1, 1);
        due("10 never together", x.broken(), NONE);
        x.may(6, 7, 2);
        due("10 neither is on", x.broken(), NONE);
        x.may(2, 7, 2);
        due("10 the last line", x.broken(), 4);
        due("10 together at each line", Check.say(x, "CH.ch.").broken(), 0);
        due("10 no line", Check.say(x, "C").broken(), NONE);
        x.may(6, 7, 0);
        due("10 together", Check.say(x, "CH.ch.").broken(), NONE);
    }

    private static void promise11Strangers() {
        StageCount x = Check.stage("A.BC.b.B.abc.");
        due("11 comings", x.strangers(0), 2 + 1 + 3);
        due("11 the most", x.strangers(1), 3);
        due("11 no bar", x.strangers(2), NONE);
        int[] at = {2, 0, 1, 0, 3};
        for (int line = 0; line < 5; line++) {
            due("11 at " + line, x.strangers(10 + line), at[line]);
        }
        due("11 no such line", x.strangers(15), OUTSIDE);
        due("11 what 3", x.strangers(3), OUTSIDE);
        due("11 what 9", x.strangers(9), OUTSIDE);
        due("11 what -1", x.strangers(-1), OUTSIDE);
        due("11 what least", x.strangers(LEAST), OUTSIDE);
        x.set(0, 2);
        due("11 by just K under another law", x.strangers(0), 6);
        x.set(1, 2);
        due("11 bar", x.strangers(2), 1);
        due("11 barred comings", x.strangers(0), NONE);
        due("11 barred most", x.strangers(1), NONE);
        due("11 barred line", x.strangers(10), NONE);
        due("11 barred, no such line", x.strangers(15), OUTSIDE);
        due("11 no ahead of outside", Check.stage(BAD_SIGN).strangers(3), NO);
        due("11 state ahead of outside", Check.stage(ASKED).strangers(3), STATE);
        due("11 no such line of none", new StageCount().strangers(10), OUTSIDE);
        due("11 no lines: comings", new StageCount().strangers(0), 0);
        due("11 no lines: most", new StageCount().strangers(1), 0);
        x.set(1, 3);
        Check.say(x, "A..B..abCDEF.");
        due("11 bar at the last line", x.strangers(2), 4);
        Check.say(x, "A.B..");
        due("11 who stays does not come", x.strangers(0), 2);
        due("11 the most at the first line", x.strangers(1), 2);
        due("11 no bar, as the longer play is gone", x.strangers(2), NONE);
        due("11 bar at the first line", Check.say(x, "ABCD.a.").strangers(2), 0);
    }

    private static void promise12Cuts() {
        StageCount x = Check.stage("ABC.D.a.b.c.d.");
        due("12 just three", x.cuts(), 4);
        x.set(0, 1);
        due("12 odd", x.cuts(), 3);
        x.set(0, 2);
        due("12 no fewer: 3 4 3 2 1 0", x.cuts(), 4);
        x.set(1, 0);
        Check.say(x, "ABC.abc.A..a.");
        due("12 no fewer: 3 0 1 1 0", x.cuts(), 2);
        x.set(1, 1);
        due("12 no fewer, one at least", x.cuts(), 3);
        x.set(1, 4);
        due("12 all go", x.cuts(), 5);
        x.set(1, 0);
        due("12 no lines", Check.say(x, "A").cuts(), 0);
        x.set(0, 1);
        due("12 the longer play is gone", Check.say(x, "A..").cuts(), 0);
        x.set(0, 2);
        due("12 eight", Check.say(x, "ABCDEFGH..h.").cuts(), 1);
    }

    private static void promise13Cast() {
        StageCount x = Check.stage("A.aB.bC.cD.");
        due("13 one for all", x.cast(-1), 1);
        due("13 he plays D", x.cast(3), 0);
        due("13 no line", x.cast(4), NONE);
        x.set(2, 1);
        due("13 two", x.cast(-1), 2);
        due("13 A", x.cast(0), 0);
        due("13 B", x.cast(1), 1);
        due("13 C", x.cast(2), 0);
        due("13 D", x.cast(3), 1);
        x.set(2, 2);
        due("13 three", x.cast(-1), 3);
        due("13 A again", x.cast(3), 0);
        x.set(2, 3);
        due("13 four", x.cast(-1), 4);
        x.set(2, 0);
        due("13 by parts, not by lines", Check.say(x, "H.hC.").cast(2), 0);
        due("13 H too", x.cast(7), 0);
        due("13 comes, but has no line", Check.say(x, "AaB.").cast(0), NONE);
        due("13 numbered as they first come", x.cast(1), 0);
        due("13 another has no line", Check.say(x, "C.").cast(1), NONE);
        due("13 nor has the first", x.cast(0), NONE);
        due("13 eight at once", Check.say(x, "ABCDEFGH.").cast(-1), 8);
        due("13 the last of eight", x.cast(7), 7);
        // A and D clash, B and C clash
        Check.say(x, "AD.adBC.bc");
        due("13 first by players B", x.cast(1), 0);
        due("13 first by players C", x.cast(2), 1);
        due("13 first by players D", x.cast(3), 1);
        due("13 unknown 8", x.cast(8), UNKNOWN);
        due("13 unknown -2", x.cast(-2), UNKNOWN);
        due("13 unknown ahead of no", Check.stage(BAD_SIGN).cast(8), UNKNOWN);
        castWhereLowestFirstIsDearer();
    }

    /** A-C, C-D, D-B clash in a path: the lowest free for each in turn (A 0, B 0) would need a third player. */
    private static void castWhereLowestFirstIsDearer() {
        StageCount x = Check.stage("AC.aD.cB.");
        due("13 path: two", x.cast(-1), 2);
        due("13 path: A", x.cast(0), 0);
        due("13 path: B", x.cast(1), 1);
        due("13 path: C", x.cast(2), 1);
        due("13 path: D", x.cast(3), 0);
    }

    private static void promise14Ill() {
        StageCount x = Check.stage("A.aB.bC.cA.aD.");
        due("14 one player: nobody takes over", x.ill(0, 0), 4);
        due("14 ahead of line 1", x.ill(0, 1), 4);
        due("14 ahead of line 4", x.ill(0, 4), 1);
        Check.say(x, "AB.bC.acD.dE.A.");
        // A 0 1 4, B 0, C 1, D 2, E 3 4: A and D are one's, B and C and E the other's
        due("14 two", x.cast(-1), 2);
        due("14 D is A's", x.cast(3), 0);
        due("14 from line 2 on", x.ill(0, 2), 1);
        due("14 by another part of his", x.ill(3, 2), 1);
        due("14 B's player, from line 0", x.ill(1, 0), 3);
        due("14 B's player, from line 3", x.ill(1, 3), 1);
        due("14 no line", x.ill(5, 0), 0);
        due("14 no such line", x.ill(0, 5), OUTSIDE);
        due("14 no such line of a part that has none", x.ill(5, 5), OUTSIDE);
        due("14 negative line", x.ill(0, -1), OUTSIDE);
        due("14 unknown", x.ill(8, 0), UNKNOWN);
        due("14 unknown ahead of outside", x.ill(-1, 99), UNKNOWN);
        due("14 unknown ahead of no", Check.stage(BAD_SIGN).ill(8, 0), UNKNOWN);
        due("14 no ahead of outside", Check.stage(CAN_NOT_BE).ill(0, 99), NO);
        due("14 state ahead of outside", Check.stage(ASKED).ill(0, 99), STATE);
        Check.say(x, "AB.a.b.A.");
        due("14 taken over", x.ill(0, 3), 0);
        x.set(2, 1);
        due("14 taken over in time", x.ill(0, 3), 0);
        x.set(2, 2);
        due("14 no time to change", x.ill(0, 3), 1);
        x.set(2, 0);
        Check.say(x, "A.BC.ab.B.");
        due("14 the first player can, and he alone", x.ill(1, 2), 0);
    }

    private static void promise15Scene() {
        StageCount x = new StageCount();
        due("15 below", x.scene(-1), OUTSIDE);
        due("15 above", x.scene(256), OUTSIDE);
        due("15 first", x.scene(0), 1);
        for (int i = 2; i <= 6; i++) {
            due("15 more", x.scene(255), i);
        }
        due("15 full", x.scene(0), FULL);
        due("15 outside ahead of full", x.scene(256), OUTSIDE);
        due("15 unchanged", x.told(4), 6);
    }

    private static void promise16Strike() {
        StageCount x = new StageCount();
        due("16 none", x.strike(), 0);
        x.scene(5);
        x.scene(6);
        x.seen(0, 0);
        due("16 two", x.strike(), 2);
        due("16 none again", x.strike(), 0);
        due("16 sights stay", x.told(5), 1);
        due("16 scenes went", x.told(10), OUTSIDE);
        due("16 from the first on", x.scene(9), 1);
        due("16 the new one", x.told(10), 9);
    }

    private static void promise17Order() {
        StageCount x = new StageCount();
        due("17 no scenes", x.order(-1), 0);
        due("17 no first", x.order(0), NONE);
        x.scene(7);
        due("17 one: all come and go", x.order(-1), 6);
        due("17 one", x.order(0), 0);
        x.scene(56);
        x.scene(31);
        // 7, 31, 56: 3 come; 2 come; 1 comes, 3 go; 3 go; the other way round it is as many
        due("17 three", x.order(-1), 12);
        due("17 first", x.order(0), 0);
        due("17 second", x.order(1), 2);
        due("17 third", x.order(2), 1);
        due("17 no fourth", x.order(3), NONE);
        due("17 negative", x.order(-2), NONE);
        due("17 least", x.order(LEAST), NONE);
        due("17 greatest", x.order(GREATEST), NONE);
        x.strike();
        x.scene(2);
        x.scene(1);
        due("17 either way round", x.order(-1), 4);
        due("17 nobody is on ahead", x.order(0), 0);
        x.strike();
        for (int i = 0; i < 6; i++) {
            x.scene(3);
        }
        due("17 all alike", x.order(-1), 4);
        for (int i = 0; i < 6; i++) {
            due("17 the first by numbers", x.order(i), i);
        }
    }

    private static void promise18Seen() {
        StageCount x = new StageCount();
        due("18 line below", x.seen(-1, 0), OUTSIDE);
        due("18 line above", x.seen(40, 0), OUTSIDE);
        due("18 many below", x.seen(0, -1), OUTSIDE);
        due("18 many above", x.seen(0, 9), OUTSIDE);
        due("18 first", x.seen(0, 0), 1);
        for (int i = 2; i <= 6; i++) {
            due("18 more", x.seen(39, 8), i);
        }
        due("18 full", x.seen(0, 0), FULL);
        due("18 outside ahead of full", x.seen(0, 9), OUTSIDE);
        due("18 unchanged", x.told(5), 6);
    }

    private static void promise19Forget() {
        StageCount x = Check.stage("A.");
        due("19 none", x.forget(), 0);
        x.seen(0, 2);
        x.seen(0, 1);
        x.scene(1);
        due("19 two contradict", x.fits(-1), 0);
        due("19 two", x.forget(), 2);
        due("19 none again", x.forget(), 0);
        due("19 forgotten", x.fits(-1), 1);
        due("19 scenes stay", x.told(4), 1);
    }

    private static void promise20Fits() {
        due("20 no ?", Check.stage("AB.").fits(-1), 1);
        due("20 no ?, can not be", Check.stage(CAN_NOT_BE).fits(-1), 0);
        due("20 no first ?", Check.stage("AB.").fits(0), NONE);
        StageCount x = Check.stage("?.a?.b");
        due("20 one way", x.fits(-1), 1);
        due("20 A", x.fits(0), 0);
        due("20 B", x.fits(1), 1);
        due("20 no third", x.fits(2), NONE);
        due("20 negative", x.fits(-2), NONE);
        Check.say(x, "B?.?.a");
        due("20 either came", x.fits(-1), 2 * 6);
        due("20 first by letters", x.fits(0), 0);
        due("20 then", x.fits(1), 2);
        x.seen(0, 2);
        x.seen(1, 3);
        due("20 sights hold", x.fits(-1), 12);
        x.seen(1, 2);
        due("20 a sight does not hold", x.fits(-1), 0);
        due("20 no way", x.fits(0), NONE);
        x.forget();
        x.seen(2, 3);
        due("20 no such line", x.fits(-1), 0);
        x.forget();
        x.seen(2, 0);
        due("20 no such line, of nobody", x.fits(-1), 0);
        due("20 nobody at that line", Check.say(x, "...").fits(-1), 1);
        due("20 fault", Check.stage("A?*").fits(-1), NO);
        due("20 four ?", Check.stage("????").fits(0), NO);
        due("20 fault ahead of none", Check.stage("*").fits(5), NO);
        due("20 three", Check.stage("???").fits(-1), 8 * 7 * 6);
        due("20 all are on", Check.stage("ABCDEFGH?").fits(-1), 0);
        due("20 the last one", Check.stage("ABCDEFG?").fits(0), 7);
        due("20 must come ahead of going", Check.stage("???.cba").fits(-1), 6);
        due("20 comes later", Check.stage("?.AB").fits(-1), 6);
    }

    private static void promise21Could() {
        StageCount x = Check.stage("B?.?.a");
        due("21 first", x.could(0), 255 - 2);
        due("21 second", x.could(1), 255 - 2);
        due("21 no third", x.could(2), NONE);
        due("21 negative", x.could(-1), NONE);
        due("21 greatest", x.could(GREATEST), NONE);
        x.seen(0, 5);
        due("21 nobody", x.could(0), 0);
        due("21 fault", Check.stage("?*").could(0), NO);
        due("21 fault ahead of none", Check.stage("?*").could(3), NO);
        due("21 only one", Check.stage("?.g").could(0), 64);
        due("21 no ?", Check.stage("A").could(0), NONE);
        due("21 nobody, as it can not be", Check.stage("?.AA").could(0), 0);
        due("21 the third", Check.stage("?a?b?ABCDEFG").could(2), 128);
    }

    private static void promise22Evening() {
        StageCount x = new StageCount();
        // seed 1: x is 149, 11249, 57305, 38044, 35283, 24819: PARTS 5, 1, 1, 4, 3, 3
        x.set(1, 1);
        due("22 one event: the law", x.evening(1, 1, 0), 1);
        due("22 one event: on", x.evening(1, 1, 1), 1);
        due("22 two: on", x.evening(1, 2, 1), 2);
        due("22 three: on", x.evening(1, 3, 1), 1);
        due("22 three: the law", x.evening(1, 3, 0), 2);
        due("22 three: the most", x.evening(1, 3, 2), 2);
        due("22 six: on", x.evening(1, 6, 1), 2);
        due("22 six: the most", x.evening(1, 6, 2), 3);
        x.set(0, 2);
        due("22 no fewer", x.evening(1, 4, 0), 3);
        x.set(1, 2);
        due("22 K at the first", x.evening(1, 4, 0), 2);
        x.set(0, 1);
        due("22 odd", x.evening(1, 6, 0), 3);
        due("22 seed below", x.evening(-1, 1, 0), OUTSIDE);
        due("22 seed above", x.evening(10000, 1, 0), OUTSIDE);
        due("22 m below", x.evening(0, 0, 0), OUTSIDE);
        due("22 m above", x.evening(0, 100, 0), OUTSIDE);
        due("22 what below", x.evening(0, 1, -1), OUTSIDE);
        due("22 what above", x.evening(0, 1, 3), OUTSIDE);
        due("22 longest", x.evening(9999, 99, 2), 8);
    }

    private static void promise23Image() {
        StageCount x = new StageCount();
        due("23 below", x.image(-1), OUTSIDE);
        due("23 above", x.image(2), OUTSIDE);
        due("23 first", x.image(0), 1);
        due("23 not the other", x.restore(1), STATE);
        x.set(1, 5);
        due("23 second", x.image(1), 1);
        x.set(1, 6);
        due("23 kept anew", x.image(0), 1);
        x.restore(1);
        due("23 the second holds", x.told(2), 5);
        x.restore(0);
        due("23 the new one holds", x.told(2), 6);
    }

    private static void promise24Restore() {
        StageCount x = Check.stage("AB.");
        due("24 was not kept", x.restore(0), STATE);
        due("24 below", x.restore(-1), OUTSIDE);
        due("24 above", x.restore(2), OUTSIDE);
        x.set(0, 1);
        x.set(1, 4);
        x.set(2, 5);
        x.may(0, 1, 1);
        x.may(2, 3, 2);
        x.scene(9);
        x.scene(8);
        x.seen(0, 2);
        x.image(1);
        x.set(0, 2);
        x.set(1, 2);
        x.set(2, 1);
        x.may(0, 1, 0);
        x.may(2, 3, 1);
        x.strike();
        x.scene(1);
        x.forget();
        x.seen(0, 1);
        x.seen(0, 1);
        Check.say(x, "A.");
        due("24 restored", x.restore(1), 1);
        due("24 law", x.told(1), 1);
        due("24 K", x.told(2), 4);
        due("24 change", x.told(3), 5);
        due("24 scenes", x.told(4), 2);
        due("24 scene 0", x.told(10), 9);
        due("24 scene 1", x.told(11), 8);
        due("24 sights", x.told(5), 1);
        due("24 the pad is not kept", x.told(0), 2);
        due("24 sight", x.fits(-1), 0);
        due("24 sight of two", Check.say(x, "AB.").fits(-1), 1);
        x.forget();
        x.seen(1, 2);
        x.image(0);
        x.forget();
        x.seen(0, 2);
        x.restore(0);
        due("24 sight's line", Check.say(x, "A.B.").fits(-1), 1);
        x.restore(1);
        Check.say(x, "AB.");
        due("24 must not", x.may(0, 1, 0), 1);
        due("24 must", x.may(2, 3, 0), 2);
        due("24 twice", x.restore(1), 1);
        due("24 must not again", x.may(0, 1, 0), 1);
    }

    private static void promise25Told() {
        StageCount x = Check.stage("A.*");
        x.set(0, 2);
        x.set(1, 7);
        x.set(2, 9);
        x.scene(255);
        x.scene(4);
        x.seen(1, 1);
        due("25 signs", x.told(0), 3);
        due("25 law", x.told(1), 2);
        due("25 K", x.told(2), 7);
        due("25 change", x.told(3), 9);
        due("25 scenes", x.told(4), 2);
        due("25 sights", x.told(5), 1);
        due("25 scene 0", x.told(10), 255);
        due("25 scene 1", x.told(11), 4);
        due("25 no scene 2", x.told(12), OUTSIDE);
        due("25 6", x.told(6), OUTSIDE);
        due("25 9", x.told(9), OUTSIDE);
        due("25 -1", x.told(-1), OUTSIDE);
        due("25 least", x.told(LEAST), OUTSIDE);
        due("25 greatest", x.told(GREATEST), OUTSIDE);
    }

    /** All that is asked of LINES is refused alike: a FAULT, then a ?, then what can not be. */
    private static void refusalsOfLines() {
        String[] plays = {BAD_SIGN, ASKED, CAN_NOT_BE, ASKED_AND_CAN_NOT_BE, "?AA*", "A..a.a"};
        int[] refusals = {NO, STATE, NO, STATE, NO, NO};
        for (int i = 0; i < plays.length; i++) {
            StageCount x = Check.stage(plays[i]);
            String play = " of " + plays[i];
            int want = refusals[i];
            due("6 judge(2)" + play, x.judge(2), want);
            due("7 on(0)" + play, x.on(0), want);
            due("7 on(-1)" + play, x.on(-1), want);
            due("8 lines(-1)" + play, x.lines(-1), want);
            due("8 lines(-2)" + play, x.lines(-2), want);
            due("8 lines(7)" + play, x.lines(7), want);
            due("10 broken()" + play, x.broken(), want);
            due("11 strangers(0)" + play, x.strangers(0), want);
            due("11 strangers(2)" + play, x.strangers(2), want);
            due("11 strangers(99)" + play, x.strangers(99), want);
            due("12 cuts()" + play, x.cuts(), want);
            due("13 cast(-1)" + play, x.cast(-1), want);
            due("13 cast(7)" + play, x.cast(7), want);
            due("14 ill(0, 0)" + play, x.ill(0, 0), want);
            due("14 ill(0, -1)" + play, x.ill(0, -1), want);
        }
    }
}
