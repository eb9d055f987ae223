/** Section 1 of the document (plays, laws) and promises 1 to 6: a test for each sentence that names a boundary. */
public final class EdgePlaysTest {
    private static final int UNKNOWN = -1, OUTSIDE = -2, STATE = -3, FULL = -4, NO = -5, NONE = -6;
    private static final String ALL_COME = "ABCDEFGH";

    private static final Check check = new Check();

    private static void due(String call, int got, int want) {
        check.due(call, got, want);
    }

    public static void main(String[] args) {
        usedFor512Calls();
        constants();
        partsZeroToSeven();
        padOfFortySigns();
        codes33To126();
        lettersAToH();
        linesFromZeroOn();
        threeAskedAtMost();
        fourthAskedCanNotStand();
        eventsFromZeroOn();
        nobodyIsOnAhead();
        firstSignThatCanNotStand();
        onWhoComes();
        notOnWhoGoes();
        lawOfJustK();
        lawOfAnOddNumber();
        lawOfNoFewerAtLineZero();
        lawOfNoFewerThanAhead();
        theFirstEvent();
        theFirstLine();
        aNewObject();
        setWhichItWas();
        setOutside();
        sayHowMany();
        sayOutside();
        sayFull();
        wipeHowMany();
        faultOrNone();
        judgeNone();
        judgeOutside();
        judgeNoForAFault();
        judgeNoForTheLine();
        judgeStateAheadOfWhatCanNotBe();
        check.end();
    }

    /** "An object is used for at most 512 calls after it has been made" */
    private static void usedFor512Calls() {
        StageCount x = new StageCount();
        for (int call = 1; call <= 512; call++) {
            due("set as call " + call, x.set(1, call % 9), call == 1 ? 3 : (call - 1) % 9);
        }
        String asked = "?.?.?.";
        x = Check.stage(asked);
        for (int call = asked.length() + 2; call <= 512; call++) {
            due("fits as call " + call, x.fits(-1), 8 * 7 * 6);
        }
        String oneByOne = "A.aB.bC.cD.dE.eF.fG.gH.";
        x = Check.stage(oneByOne);
        x.set(2, 2);
        for (int call = oneByOne.length() + 3; call <= 512; call++) {
            due("cast as call " + call, x.cast(7), 1);
        }
    }

    /** "UNKNOWN = -1, OUTSIDE = -2, STATE = -3, FULL = -4, NO = -5, NONE = -6" */
    private static void constants() {
        due("UNKNOWN", StageCount.UNKNOWN, -1);
        due("OUTSIDE", StageCount.OUTSIDE, -2);
        due("STATE", StageCount.STATE, -3);
        due("FULL", StageCount.FULL, -4);
        due("NO", StageCount.NO, -5);
        due("NONE", StageCount.NONE, -6);
    }

    /** "PARTS 0 to 7 (A to H)." */
    private static void partsZeroToSeven() {
        StageCount x = Check.stage("AH.");
        due("lines(0)", x.lines(0), 1);
        due("lines(7)", x.lines(7), 1);
        due("lines(8)", x.lines(8), UNKNOWN);
        due("cast(0)", x.cast(0), 0);
        due("cast(7)", x.cast(7), 1);
        due("cast(8)", x.cast(8), UNKNOWN);
        due("ill(-1, 0)", x.ill(-1, 0), UNKNOWN);
        due("ill(0, 0)", x.ill(0, 0), 1);
        due("ill(7, 0)", x.ill(7, 0), 1);
        due("ill(8, 0)", x.ill(8, 0), UNKNOWN);
        due("may(-1, 7, 0)", x.may(-1, 7, 0), UNKNOWN);
        due("may(0, 8, 0)", x.may(0, 8, 0), UNKNOWN);
        due("may(0, 7, 0)", x.may(0, 7, 0), 0);
        due("a sign behind H", Check.stage("AHI").fault(), 2);
        due("a sign behind h", Check.stage("AHi").fault(), 2);
    }

    /** "A PLAY is a text on a PAD of up to 40 signs" */
    private static void padOfFortySigns() {
        StageCount x = new StageCount();
        due("an empty PAD", x.told(0), 0);
        due("of an empty PAD all EVENTS can be", x.judge(0), NONE);
        Check.say(x, Check.dots(39));
        due("the 40th sign", x.say('A'), 40);
        due("the 41st sign", x.say('A'), FULL);
        due("the 40th counts, the 41st does not", x.lines(-2), 1);
        due("the LINES ahead", x.lines(-1), 39);
        Check.say(x, Check.dots(39)).say('*');
        due("a FAULT at the 40th sign", x.fault(), 39);
        Check.say(x, Check.dots(40)).say('*');
        due("no FAULT at the 41st", x.fault(), NONE);
    }

    /** "(codes 33 to 126)" */
    private static void codes33To126() {
        for (int sign = -200; sign <= 400; sign++) {
            due("say(" + sign + ") as the first", new StageCount().say(sign), sign >= 33 && sign <= 126 ? 1 : OUTSIDE);
        }
    }

    /** "A to H (comes on), a to h (goes off), . (a LINE is spoken ..), ? (one comes on who is not told ..)" */
    private static void lettersAToH() {
        for (int sign = 33; sign <= 126; sign++) {
            StageCount x = new StageCount();
            x.say('.');
            x.say(sign);
            boolean stands = sign >= 'A' && sign <= 'H' || sign >= 'a' && sign <= 'h' || sign == '.' || sign == '?';
            due("FAULT of sign " + sign, x.fault(), stands ? NONE : 1);
            due("a coming of sign " + sign, stands && sign < 'a' ? x.fits(-1) : 0, !stands || sign >= 'a' ? 0 : sign == '?' ? 8 : 1);
        }
        for (int part = 0; part < 8; part++) {
            StageCount x = new StageCount();
            x.say('A' + part);
            x.say('.');
            x.say('a' + part);
            x.say('.');
            due("PART " + part + " comes", x.on(0), 1 << part);
            due("PART " + part + " goes", x.on(1), 0);
        }
    }

    /** "LINES are numbered from 0 on" */
    private static void linesFromZeroOn() {
        StageCount x = Check.stage("A.B.");
        due("LINE 0", x.on(0), 1);
        due("LINE 1", x.on(1), 3);
        due("no LINE 2", x.on(2), OUTSIDE);
        due("no LINE -1", x.on(-1), OUTSIDE);
    }

    /** "? (one comes on who is not told; 3 at most)": up to three */
    private static void threeAskedAtMost() {
        due("no ?", Check.stage("A.").fault(), NONE);
        due("one ?", Check.stage("?.").fault(), NONE);
        due("two ?", Check.stage("?.?").fault(), NONE);
        due("three ?", Check.stage("?.?.?").fault(), NONE);
        due("three ? at the last signs", Check.stage(Check.dots(37) + "???").fault(), NONE);
    }

    /** "? (one comes on who is not told; 3 at most)": the fourth */
    private static void fourthAskedCanNotStand() {
        due("four ? alone", Check.stage("????").fault(), 3);
        due("the fourth apart", Check.stage("?.?A.?a.?").fault(), 8);
        due("the fourth as the last sign", Check.stage("???" + Check.dots(36) + "?").fault(), 39);
        due("of five the fourth", Check.stage("?????").fault(), 3);
    }

    /** "EVENTS are its signs, from 0 on" */
    private static void eventsFromZeroOn() {
        due("EVENT 0", Check.stage("a").judge(0), 0);
        due("EVENT 1", Check.stage("AA").judge(0), 1);
        due("LINES are EVENTS too", Check.stage(".A..A").judge(0), 4);
        due("EVENT 39", Check.stage("A" + Check.dots(38) + "A").judge(0), 39);
    }

    /** "nobody is on ahead of them" */
    private static void nobodyIsOnAhead() {
        for (int part = 0; part < 8; part++) {
            StageCount x = new StageCount();
            x.say('a' + part);
            due("PART " + part + " goes first: where", x.judge(0), 0);
            due("PART " + part + " goes first: why", x.judge(1), 2);
        }
        due("a LINE ahead of all comings", Check.stage(".A").on(0), 0);
        due("all can come", Check.stage(ALL_COME).judge(0), NONE);
    }

    /** "THE FAULT: the place of the first sign that can not stand there." */
    private static void firstSignThatCanNotStand() {
        due("at 0", Check.stage("*.").fault(), 0);
        due("in between", Check.stage("A*.").fault(), 1);
        due("the first of two", Check.stage("A.x.y").fault(), 2);
        due("a sign ahead of the fourth ?", Check.stage("???x?").fault(), 3);
        due("the fourth ? ahead of a sign", Check.stage("????x").fault(), 3);
        due("a sign behind an EVENT that can not be", Check.stage("aAA*").fault(), 3);
    }

    /** "An EVENT can not be: 1 who comes is on" */
    private static void onWhoComes() {
        due("comes twice: where", Check.stage("HH").judge(0), 1);
        due("comes twice: why", Check.stage("HH").judge(1), 1);
        due("comes again, having gone", Check.stage("HhH").judge(0), NONE);
        due("the ninth can not come", Check.stage(ALL_COME + "D").judge(0), 8);
        due("a LINE between them", Check.stage("A.B.A").judge(0), 4);
    }

    /** "An EVENT can not be: .. 2 who goes is not" */
    private static void notOnWhoGoes() {
        due("another is on: where", Check.stage("Ab").judge(0), 1);
        due("another is on: why", Check.stage("Ab").judge(1), 2);
        due("goes twice", Check.stage("A.a.a").judge(0), 4);
        due("goes, having come again", Check.stage("AaAa").judge(0), NONE);
        due("all go", Check.stage(ALL_COME + ".hgfedcba").judge(0), NONE);
    }

    /** "THE LAW (0 to 2) with K (0 to 8 ..), at each LINE: 0 (at first) just K are on" */
    private static void lawOfJustK() {
        for (int many = 0; many <= 8; many++) {
            StageCount x = Check.stage(ALL_COME.substring(0, many) + ".");
            for (int k = 0; k <= 8; k++) {
                x.set(1, k);
                due("just " + k + ", on are " + many, x.judge(2), many == k ? NONE : 0);
            }
        }
    }

    /** "1 an odd number is" */
    private static void lawOfAnOddNumber() {
        for (int many = 0; many <= 8; many++) {
            StageCount x = Check.stage(ALL_COME.substring(0, many) + ".");
            x.set(0, 1);
            for (int k = 0; k <= 8; k++) {
                x.set(1, k);
                due("odd, K " + k + ", on are " + many, x.judge(2), many % 2 == 1 ? NONE : 0);
            }
        }
    }

    /** "2 no fewer than at the LINE ahead (K at least at LINE 0)": LINE 0 */
    private static void lawOfNoFewerAtLineZero() {
        for (int many = 0; many <= 8; many++) {
            StageCount x = Check.stage(ALL_COME.substring(0, many) + ".");
            x.set(0, 2);
            for (int k = 0; k <= 8; k++) {
                x.set(1, k);
                due("at least " + k + ", on are " + many, x.judge(2), many >= k ? NONE : 0);
            }
        }
    }

    /** "2 no fewer than at the LINE ahead (K at least at LINE 0)": the other LINES */
    private static void lawOfNoFewerThanAhead() {
        StageCount x = Check.stage("AB.");
        x.set(0, 2);
        x.set(1, 2);
        due("as many", Check.say(x, "AB.aC.").judge(2), NONE);
        due("one more", Check.say(x, "AB.C.").judge(2), NONE);
        due("one fewer, K and more still", Check.say(x, "ABCD.a.").judge(2), 1);
        due("fewer than at the LINE ahead, not than at LINE 0", Check.say(x, "AB.CD.d.").judge(2), 2);
        due("by the LINE ahead, not by the EVENTS between", Check.say(x, "AB.abAB.").judge(2), NONE);
        x.set(1, 0);
        due("nobody at all LINES", Check.say(x, Check.dots(40)).judge(2), NONE);
        due("all go ahead of the last LINE", Check.say(x, "A" + Check.dots(37) + "a.").judge(2), 37);
    }

    /** "JUDGED: the first EVENT that can not be, why" */
    private static void theFirstEvent() {
        StageCount x = Check.stage("AAb");
        due("of two, the coming: where", x.judge(0), 1);
        due("of two, the coming: why", x.judge(1), 1);
        Check.say(x, "bAA");
        due("of two, the going: where", x.judge(0), 0);
        due("of two, the going: why", x.judge(1), 2);
    }

    /** "the first LINE that breaks THE LAW (if all EVENTS can be)" */
    private static void theFirstLine() {
        due("LINE 0", Check.stage("A.").judge(2), 0);
        due("of two", Check.stage("ABC.D.E.").judge(2), 1);
        due("the last of 37", Check.stage("ABC" + Check.dots(35) + "a.").judge(2), 35);
        due("an EVENT behind the LINE can not be", Check.stage("A.A").judge(2), NO);
    }

    /** "StageCount(): Just three must be on." */
    private static void aNewObject() {
        StageCount x = new StageCount();
        due("THE LAW", x.told(1), 0);
        due("K", x.told(2), 3);
        due("CHANGE", x.told(3), 0);
        due("no signs", x.told(0), 0);
        due("no SCENES", x.told(4), 0);
        due("no SIGHTS", x.told(5), 0);
        due("no IMAGE 0", x.restore(0), STATE);
        due("no IMAGE 1", x.restore(1), STATE);
        due("two", Check.say(x, "AB.").judge(2), 0);
        due("three", Check.say(x, "ABC.").judge(2), NONE);
        due("four", Check.say(x, "ABCD.").judge(2), 0);
        StageCount y = new StageCount();
        due("another new object is empty", y.told(0), 0);
        y.set(1, 4);
        due("and may be otherwise: it", y.told(2), 4);
        due("and may be otherwise: the one ahead", x.told(2), 3);
        due("and may be otherwise: its PLAY", x.told(0), 5);
    }

    /** "set(which, v): 0 THE LAW, 1 K, 2 CHANGE: which it was." */
    private static void setWhichItWas() {
        int[] most = {2, 8, 9};
        int[] first = {0, 3, 0};
        for (int which = 0; which < 3; which++) {
            StageCount x = new StageCount();
            due("the most of " + which, x.set(which, most[which]), first[which]);
            due("the least of " + which, x.set(which, 0), most[which]);
            due("the same of " + which, x.set(which, 0), 0);
            for (int other = 0; other < 3; other++) {
                due("set " + which + " leaves " + other, x.told(other + 1), other == which ? 0 : first[other]);
            }
        }
    }

    /** "set: .. OUTSIDE.": THE LAW 0 to 2, K 0 to 8, CHANGE 0 to 9 */
    private static void setOutside() {
        int[] most = {2, 8, 9};
        for (int which = -40; which <= 40; which++) {
            for (int v : Check.WIDE) {
                boolean isTold = which >= 0 && which <= 2 && v >= 0 && v <= most[which];
                int want = !isTold ? OUTSIDE : which == 1 ? 3 : 0;
                due("set(" + which + ", " + v + ")", new StageCount().set(which, v), want);
            }
        }
    }

    /** "say(sign): A sign more: how many." */
    private static void sayHowMany() {
        StageCount x = new StageCount();
        for (int i = 1; i <= 40; i++) {
            due("sign " + i, x.say(i % 2 == 0 ? '.' : '*'), i);
        }
    }

    /** "say: .. OUTSIDE" */
    private static void sayOutside() {
        StageCount x = new StageCount();
        for (int sign : Check.WIDE) {
            if (sign < 33 || sign > 126) {
                due("say(" + sign + ")", x.say(sign), OUTSIDE);
            }
        }
        due("65 and 2^16", x.say('A' + 65536), OUTSIDE);
        due("65 and 2^8", x.say('A' + 256), OUTSIDE);
        due("nothing was said", x.told(0), 0);
    }

    /** "say: .. FULL." */
    private static void sayFull() {
        StageCount x = Check.stage(Check.dots(40));
        due("full", x.say('.'), FULL);
        due("full for each sign", x.say('*'), FULL);
        due("OUTSIDE ahead of FULL", x.say(127), OUTSIDE);
        due("as many as were", x.wipe(), 40);
        due("no longer full", x.say('.'), 1);
    }

    /** "wipe(): Signs go: how many there were." */
    private static void wipeHowMany() {
        StageCount x = new StageCount();
        due("of an empty PAD", x.wipe(), 0);
        due("of one", Check.stage("*").wipe(), 1);
        due("of a full PAD", Check.stage(Check.dots(40)).wipe(), 40);
        Check.say(x, "A.A*");
        x.wipe();
        due("the signs went", x.told(0), 0);
        due("the FAULT went", x.fault(), NONE);
        due("the EVENT went", x.judge(0), NONE);
        due("the LINES went", x.lines(-1), 0);
        x.say('.');
        due("who was on went", x.on(0), 0);
    }

    /** "fault(): THE FAULT; NONE." */
    private static void faultOrNone() {
        due("of an empty PAD", new StageCount().fault(), NONE);
        due("of a full PAD", Check.stage(Check.dots(40)).fault(), NONE);
        due("of what can not be", Check.stage("aa").fault(), NONE);
        due("of a sign", Check.stage("i").fault(), 0);
    }

    /** "judge(what): JUDGED ..; NONE." */
    private static void judgeNone() {
        StageCount x = new StageCount();
        for (int what = 0; what <= 2; what++) {
            due("of an empty PAD: " + what, Check.say(x, "").judge(what), NONE);
            due("of no LINE: " + what, Check.say(x, "A").judge(what), NONE);
            due("of a PLAY as it must be: " + what, Check.say(x, "ABC.aD.").judge(what), NONE);
        }
    }

    /** "judge: .. OUTSIDE" */
    private static void judgeOutside() {
        for (int what : Check.WIDE) {
            if (what < 0 || what > 2) {
                due("judge(" + what + ")", Check.stage("A.A").judge(what), OUTSIDE);
                due("ahead of NO: " + what, Check.stage("*").judge(what), OUTSIDE);
                due("ahead of STATE: " + what, Check.stage("?").judge(what), OUTSIDE);
            }
        }
    }

    /** "judge: .. NO: there is a FAULT" */
    private static void judgeNoForAFault() {
        for (int what = 0; what <= 2; what++) {
            due("a FAULT at 0: " + what, Check.stage("*A.").judge(what), NO);
            due("a FAULT at the end: " + what, Check.stage("ABC.*").judge(what), NO);
            due("a FAULT behind what can not be: " + what, Check.stage("AA*").judge(what), NO);
            due("the fourth ?: " + what, Check.stage("????").judge(what), NO);
            due("a FAULT behind a ?: " + what, Check.stage("?*").judge(what), NO);
        }
    }

    /** "judge: .. NO: .. for the LINE also if some EVENT can not be" */
    private static void judgeNoForTheLine() {
        StageCount x = Check.stage("A.A");
        due("the EVENT", x.judge(0), 2);
        due("why", x.judge(1), 1);
        due("the LINE", x.judge(2), NO);
    }

    /** "judge: .. STATE: there is some ? (ahead of what can not be)." */
    private static void judgeStateAheadOfWhatCanNotBe() {
        for (int what = 0; what <= 2; what++) {
            due("a ? alone: " + what, Check.stage("?").judge(what), STATE);
            due("three ?: " + what, Check.stage("???").judge(what), STATE);
            due("a ? as the last sign: " + what, Check.stage("ABC.?").judge(what), STATE);
            due("a ? behind what can not be: " + what, Check.stage("AA?").judge(what), STATE);
            due("a ? ahead of what can not be: " + what, Check.stage("?AA").judge(what), STATE);
        }
    }
}
