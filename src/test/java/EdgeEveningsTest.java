/** Section 4 of the document (what is not told, evenings) and promises 18 to 25: a test for each sentence that names a boundary. */
public final class EdgeEveningsTest {
    private static final int OUTSIDE = -2, STATE = -3, FULL = -4, NO = -5, NONE = -6;
    private static final String ALL_COME = "ABCDEFGH";

    private static final Check check = new Check();

    private static void due(String call, int got, int want) {
        check.due(call, got, want);
    }

    public static void main(String[] args) {
        allEventsCanBe();
        allSightsHold();
        sixSightsAtMost();
        justSoManyWereOn();
        howManyWays();
        theFirstByLetters();
        whoCanHaveBeen();
        seenOutside();
        seenFull();
        forgetHowMany();
        fitsNone();
        sightAtNoLine();
        fitsNoForAFault();
        couldNoneOrNobody();
        couldNoForAFault();
        eveningOfOneEvent();
        eveningNobodyIsOnAtFirst();
        eveningLeftOver();
        eveningByEachLaw();
        eveningLongest();
        eveningOutside();
        eveningLeavesThePlay();
        imagesZeroAndOne();
        imageOutside();
        allButThePadIsKept();
        restoredAsItWasKept();
        restoreOutside();
        restoreState();
        toldOfEach();
        toldOutside();
        check.end();
    }

    private static void dueFits(String play, int ways, int... first) {
        StageCount x = Check.stage(play);
        due("ways of " + play, x.fits(-1), ways);
        for (int i = 0; i < 4; i++) {
            due("? " + i + " of " + play, x.fits(i), i < first.length ? first[i] : NONE);
        }
    }

    /** "PARTS for each ? so that all EVENTS can be" */
    private static void allEventsCanBe() {
        dueFits("", 1);
        dueFits("A.a", 1);
        dueFits("A.A", 0);
        dueFits("a", 0);
        dueFits("?", 8, 0);
        dueFits("A?", 7, 1);
        dueFits("?A", 7, 1);
        dueFits("Aa?", 8, 0);
        dueFits("?a", 1, 0);
        dueFits("?.h", 1, 7);
        dueFits("?ab", 0);
        dueFits("??.ab", 2, 0, 1);
        dueFits("?AA", 0);
        dueFits("AA?", 0);
        dueFits("?a?a?a", 1, 0, 0, 0);
        dueFits("?A" + Check.dots(37) + "b", 1, 1);
    }

    /** "and all SIGHTS hold" */
    private static void allSightsHold() {
        StageCount x = Check.stage("?.?.");
        x.seen(0, 1);
        due("one holds", x.fits(-1), 56);
        x.seen(1, 2);
        due("both hold", x.fits(-1), 56);
        x.seen(1, 1);
        due("the third does not", x.fits(-1), 0);
        x.forget();
        x.seen(0, 0);
        x.seen(1, 2);
        due("the first does not", x.fits(-1), 0);
        x.forget();
        due("there is none", x.fits(-1), 56);
        x.seen(1, 2);
        x.seen(1, 2);
        due("one twice", x.fits(-1), 56);
    }

    /** "(6 at most ..)" */
    private static void sixSightsAtMost() {
        StageCount x = Check.stage("A.B.C.D.E.F.G.");
        for (int i = 0; i < 5; i++) {
            due("SIGHT " + i, x.seen(i, i + 1), i + 1);
        }
        due("five hold", x.fits(-1), 1);
        due("the sixth", x.seen(5, 0), 6);
        due("the sixth does not hold", x.fits(-1), 0);
        due("the seventh", x.seen(6, 7), FULL);
        due("six were told", x.told(5), 6);
        due("six are forgotten", x.forget(), 6);
        due("no longer full", x.seen(6, 7), 1);
        due("which holds", x.fits(-1), 1);
    }

    /** "at a LINE just so many were ON" */
    private static void justSoManyWereOn() {
        for (int many = 0; many <= 8; many++) {
            for (int seen = 0; seen <= 8; seen++) {
                StageCount x = Check.stage(ALL_COME.substring(0, many) + ".");
                x.seen(0, seen);
                due(many + " are on, seen are " + seen, x.fits(-1), many == seen ? 1 : 0);
            }
        }
        for (int seen = 0; seen <= 8; seen++) {
            StageCount x = Check.stage("A??.");
            x.seen(0, seen);
            due("three are on, two not told, seen are " + seen, x.fits(-1), seen == 3 ? 42 : 0);
        }
    }

    /** "how many ways" */
    private static void howManyWays() {
        dueFits("??", 56, 0, 1);
        dueFits("???", 336, 0, 1, 2);
        dueFits("ABCDE???", 6, 5, 6, 7);
        dueFits("ABCDEF???", 0);
        dueFits("ABCDEFG?", 1, 7);
        dueFits(ALL_COME + "?", 0);
        dueFits(ALL_COME + "a?", 1, 0);
        dueFits("???" + Check.dots(37), 336, 0, 1, 2);
    }

    /** "the first by letters" */
    private static void theFirstByLetters() {
        dueFits("A?a?", 49, 1, 0);
        dueFits("?.?.c", 14, 0, 2);
        dueFits("??.ba", 2, 0, 1);
        dueFits("H??h.g", 12, 0, 6);
        // two of the three go, so the third is free: the first ? is as low as can be, then the second
        dueFits("???.fh", 6 * 6, 0, 5, 7);
    }

    /** "who can have been the i-th ?, as bits" */
    private static void whoCanHaveBeen() {
        StageCount x = Check.stage("A?a?");
        due("all but A", x.could(0), 254);
        due("all", x.could(1), 255);
        due("H alone", Check.stage("ABCDEFG?").could(0), 128);
        due("A alone", Check.stage("BCDEFGH?").could(0), 1);
        x = Check.stage("???.bcd");
        for (int i = 0; i < 3; i++) {
            due("each of three by ? " + i, x.could(i), 14);
        }
        x = Check.stage("?b?b");
        due("one PART twice: the first", x.could(0), 2);
        due("one PART twice: the second", x.could(1), 2);
    }

    /** "seen(line, many): .. OUTSIDE: the LINE 0 to 39, so many 0 to 8" */
    private static void seenOutside() {
        for (int line : Check.WIDE) {
            for (int many : Check.WIDE) {
                boolean isTold = line >= 0 && line <= 39 && many >= 0 && many <= 8;
                due("seen(" + line + ", " + many + ")", new StageCount().seen(line, many), isTold ? 1 : OUTSIDE);
            }
        }
    }

    /** "seen: A SIGHT more: how many. .. FULL." */
    private static void seenFull() {
        StageCount x = new StageCount();
        for (int i = 1; i <= 6; i++) {
            due("SIGHT " + i, x.seen(39, 8), i);
        }
        due("the seventh", x.seen(0, 0), FULL);
        due("the seventh, of a LINE that can not be", x.seen(40, 0), OUTSIDE);
        due("the seventh, of too many", x.seen(0, 9), OUTSIDE);
        due("six stay", x.told(5), 6);
    }

    /** "forget(): SIGHTS go: how many there were." */
    private static void forgetHowMany() {
        StageCount x = new StageCount();
        due("of none", x.forget(), 0);
        x.seen(0, 1);
        due("of one", x.forget(), 1);
        due("it went", x.told(5), 0);
        due("and holds no more", x.fits(-1), 1);
        for (int i = 0; i < 6; i++) {
            x.seen(0, i);
        }
        due("of six", x.forget(), 6);
        due("no longer full", x.seen(0, 0), 1);
    }

    /** "fits: .. the PART of the i-th ? in the first; NONE." */
    private static void fitsNone() {
        StageCount x = Check.stage("A?.?");
        for (int i : Check.WIDE) {
            int want = i == -1 ? 42 : i == 0 ? 1 : i == 1 ? 2 : NONE;
            due("fits(" + i + ") of two ?", x.fits(i), want);
            due("fits(" + i + ") of an empty PAD", new StageCount().fits(i), i == -1 ? 1 : NONE);
            due("fits(" + i + ") of no way", Check.stage("?AA").fits(i), i == -1 ? 0 : NONE);
        }
        x.seen(0, 3);
        due("no way: how many", x.fits(-1), 0);
        due("no way: the first ?", x.fits(0), NONE);
        due("no way: the last ?", x.fits(1), NONE);
    }

    /** "(A SIGHT at a LINE that there is not does not hold.)" */
    private static void sightAtNoLine() {
        for (int many = 0; many <= 8; many++) {
            StageCount x = Check.stage("A?.");
            x.seen(1, many);
            due("of two LINES one is, seen are " + many, x.fits(-1), 0);
            x = new StageCount();
            x.seen(0, many);
            due("of no LINE, seen are " + many, x.fits(-1), 0);
            x = Check.stage(Check.dots(39));
            x.seen(39, many);
            due("LINE 39 of 39, seen are " + many, x.fits(-1), 0);
            x.say('.');
            due("LINE 39 of 40, seen are " + many, x.fits(-1), many == 0 ? 1 : 0);
        }
        StageCount x = Check.stage("A..A");
        x.seen(2, 1);
        due("a LINE that a longer PLAY had", Check.say(Check.say(x, "A..."), "A..").fits(-1), 0);
    }

    /** "fits: .. NO: there is a FAULT." */
    private static void fitsNoForAFault() {
        for (int i = -2; i <= 3; i++) {
            due("a sign: " + i, Check.stage("??*").fits(i), NO);
            due("the fourth ?: " + i, Check.stage("????").fits(i), NO);
            due("without a ?: " + i, Check.stage("!").fits(i), NO);
            due("what can not be too: " + i, Check.stage("AA!").fits(i), NO);
        }
        due("what can not be alone", Check.stage("AA").fits(-1), 0);
    }

    /** "could: .. NONE: there is no such ?." */
    private static void couldNoneOrNobody() {
        StageCount x = Check.stage("B?.?");
        for (int i : Check.WIDE) {
            due("could(" + i + ") of two ?", x.could(i), i == 0 || i == 1 ? 253 : NONE);
            due("could(" + i + ") of an empty PAD", new StageCount().could(i), NONE);
            due("could(" + i + ") of no ?", Check.stage("A.A").could(i), NONE);
            due("could(" + i + ") of no way", Check.stage("?AA").could(i), i == 0 ? 0 : NONE);
            due("could(" + i + ") of three ?", Check.stage("???").could(i), i >= 0 && i <= 2 ? 255 : NONE);
        }
        x.seen(0, 0);
        due("nobody, as a SIGHT does not hold: the first", x.could(0), 0);
        due("nobody, as a SIGHT does not hold: the last", x.could(1), 0);
        due("there is no third still", x.could(2), NONE);
    }

    /** "could: .. NO: there is a FAULT." */
    private static void couldNoForAFault() {
        for (int i = -2; i <= 4; i++) {
            due("a sign: " + i, Check.stage("??*").could(i), NO);
            due("the fourth ?: " + i, Check.stage("????").could(i), NO);
            due("without a ?: " + i, Check.stage("!").could(i), NO);
        }
    }

    /** "of m EVENTS (1 to 99)": one */
    private static void eveningOfOneEvent() {
        StageCount x = new StageCount();
        for (int seed : new int[] {0, 1, 872, 873, 5000, 9999}) {
            due("one is on, seed " + seed, x.evening(seed, 1, 1), 1);
            due("the most, seed " + seed, x.evening(seed, 1, 2), 1);
        }
        for (int k = 0; k <= 8; k++) {
            x.set(1, k);
            x.set(0, 0);
            due("just " + k, x.evening(0, 1, 0), k == 1 ? 1 : 0);
            x.set(0, 1);
            due("an odd number, K " + k, x.evening(0, 1, 0), 1);
            x.set(0, 2);
            due("at least " + k, x.evening(0, 1, 0), k <= 1 ? 1 : 0);
        }
    }

    /** "nobody being on at first" */
    private static void eveningNobodyIsOnAtFirst() {
        StageCount x = Check.stage(ALL_COME + ".");
        due("those of the PLAY are not", x.evening(7, 1, 1), 1);
        due("those of the evening ahead are not", x.evening(7, 1, 2), 1);
    }

    /** "x becomes (75 x and 74) left over by 65537; PART x left over by 8 goes, if it is on, else it comes" */
    private static void eveningLeftOver() {
        StageCount x = new StageCount();
        // seed 0: x is 74, 5624, 28652 (the first that is left over), 51790, 17641, 12409, 13231, 9344, 45504, 4950
        int[] onOfZero = {1, 2, 3, 4, 5, 4, 5, 4, 5, 4};
        // seed 9999: 29092, 19253, 2235, 36625, 59932, 38458, 796, 59774, 26608, 29564
        int[] onOfMost = {1, 2, 3, 4, 3, 4, 5, 6, 7, 6};
        for (int m = 1; m <= 10; m++) {
            due("seed 0, on behind " + m, x.evening(0, m, 1), onOfZero[m - 1]);
            due("seed 0, the most of " + m, x.evening(0, m, 2), Math.min(m, 5));
            due("seed 9999, on behind " + m, x.evening(9999, m, 1), onOfMost[m - 1]);
            due("seed 9999, the most of " + m, x.evening(9999, m, 2), m <= 4 ? m : Math.max(4, Math.min(7, m - 2)));
        }
        // 75 x and 74 is 65474 for 872, which is not left over, and 65549 for 873, which is
        due("just below 65537", x.evening(872, 2, 1), 2);
        due("just above 65537", x.evening(873, 2, 1), 2);
        // the sixteenth x of seed 5525 is just 0: PARTS 3 3 6 3 4 5 4 2 1 0 0 0 7 0 6, then 0, then 2 and 0 of 74 and 5624
        int[] onOfNothingLeft = {1, 0, 1, 2, 3, 4, 3, 4, 5, 6, 5, 6, 7, 6, 5, 6, 5, 4};
        for (int m = 1; m <= onOfNothingLeft.length; m++) {
            due("seed 5525, on behind " + m, x.evening(5525, m, 1), onOfNothingLeft[m - 1]);
        }
    }

    /** "at how many THE LAW holds" */
    private static void eveningByEachLaw() {
        StageCount x = new StageCount();
        // seed 0, on are 1 2 3 4 5 4 5 4 5 4
        int[] just = {0, 1, 1, 1, 4, 3, 0, 0, 0};
        for (int k = 0; k <= 8; k++) {
            x.set(1, k);
            x.set(0, 0);
            due("just " + k, x.evening(0, 10, 0), just[k]);
            x.set(0, 1);
            due("odd, K " + k, x.evening(0, 10, 0), 5);
            x.set(0, 2);
            due("no fewer, K " + k + " at LINE 0", x.evening(0, 10, 0), k <= 1 ? 7 : 6);
        }
    }

    /** "of m EVENTS (1 to 99)": 99, by a seed of 9999 */
    private static void eveningLongest() {
        StageCount x = new StageCount();
        due("seed 9999: just three", x.evening(9999, 99, 0), 18);
        due("seed 9999: at the end", x.evening(9999, 99, 1), 7);
        due("seed 9999: all eight once", x.evening(9999, 99, 2), 8);
        due("seed 0: just three", x.evening(0, 99, 0), 15);
        due("seed 0: at the end", x.evening(0, 99, 1), 3);
        due("seed 0: the most", x.evening(0, 99, 2), 7);
        x.set(0, 2);
        due("seed 9999: no fewer", x.evening(9999, 99, 0), 52);
    }

    /** "An EVENING by a seed (0 to 9999) of m EVENTS (1 to 99)", "what = 0 .., 1, .. 2", "OUTSIDE." */
    private static void eveningOutside() {
        StageCount x = new StageCount();
        for (int v : Check.WIDE) {
            boolean isSeed = v >= 0 && v <= 9999;
            due("evening(" + v + ", 1, 1)", x.evening(v, 1, 1), isSeed ? 1 : OUTSIDE);
            boolean isMany = v >= 1 && v <= 99;
            due("evening(0, " + v + ", 2) is answered", x.evening(0, v, 2) > 0 ? 1 : x.evening(0, v, 2), isMany ? 1 : OUTSIDE);
            due("evening(0, 1, " + v + ")", x.evening(0, 1, v), v < 0 || v > 2 ? OUTSIDE : v == 0 ? 0 : 1);
        }
    }

    /** An EVENING needs no PLAY: a FAULT, a ? and what can not be are nothing to it. */
    private static void eveningLeavesThePlay() {
        for (String play : new String[] {"", "*", "?", "AA", "A."}) {
            StageCount x = Check.stage(play);
            due("with " + play, x.evening(0, 10, 1), 4);
            due("the signs stay: " + play, x.told(0), play.length());
        }
    }

    /** "an IMAGE (0, 1)" */
    private static void imagesZeroAndOne() {
        StageCount x = new StageCount();
        due("image(0)", x.image(0), 1);
        x.set(1, 7);
        due("image(1)", x.image(1), 1);
        x.set(1, 8);
        due("restore(0)", x.restore(0), 1);
        due("K of IMAGE 0", x.told(2), 3);
        due("restore(1)", x.restore(1), 1);
        due("K of IMAGE 1", x.told(2), 7);
        x.set(1, 6);
        due("kept again", x.image(0), 1);
        x.restore(1);
        due("IMAGE 1 is as it was", x.told(2), 7);
        x.restore(0);
        due("IMAGE 0 is what was kept last", x.told(2), 6);
    }

    /** "image: .. OUTSIDE." */
    private static void imageOutside() {
        for (int n : Check.WIDE) {
            StageCount x = new StageCount();
            due("image(" + n + ")", x.image(n), n == 0 || n == 1 ? 1 : OUTSIDE);
            due("IMAGE 0 behind image(" + n + ")", x.restore(0), n == 0 ? 1 : STATE);
            due("IMAGE 1 behind image(" + n + ")", x.restore(1), n == 1 ? 1 : STATE);
        }
    }

    /** "All but the PAD is kept in an IMAGE" */
    private static void allButThePadIsKept() {
        StageCount x = Check.stage("A.B.");
        x.image(0);
        x.say('C');
        x.restore(0);
        due("a sign more stays", x.told(0), 5);
        due("and comes", x.lines(-2), 3);
        x.wipe();
        x.restore(0);
        due("signs that went do not come back", x.told(0), 0);
        Check.say(x, "*");
        due("restored with a FAULT", x.restore(0), 1);
        due("the FAULT stays", x.fault(), 0);
        due("kept with a FAULT", x.image(1), 1);
    }

    /** "restore(n): It is as it was when it was kept: 1." */
    private static void restoredAsItWasKept() {
        StageCount x = new StageCount();
        x.image(1);
        fill(x);
        x.image(0);
        due("empty again", x.restore(1), 1);
        dueEmpty(x);
        due("full again", x.restore(0), 1);
        dueFull(x);
        x.strike();
        x.forget();
        x.scene(1);
        x.seen(1, 1);
        x.may(0, 1, 0);
        due("full once more", x.restore(0), 1);
        dueFull(x);
        due("empty once more", x.restore(1), 1);
        dueEmpty(x);
    }

    private static void fill(StageCount x) {
        x.set(0, 2);
        x.set(1, 8);
        x.set(2, 9);
        for (int i = 0; i < 6; i++) {
            x.scene(250 + i);
            x.seen(0, 2);
        }
        x.may(0, 1, 1);
        x.may(6, 7, 2);
    }

    private static void dueFull(StageCount x) {
        due("full: THE LAW", x.told(1), 2);
        due("full: K", x.told(2), 8);
        due("full: CHANGE", x.told(3), 9);
        due("full: SCENES", x.told(4), 6);
        due("full: SIGHTS", x.told(5), 6);
        for (int i = 0; i < 6; i++) {
            due("full: SCENE " + i, x.told(10 + i), 250 + i);
        }
        due("full: a SCENE more", x.scene(1), FULL);
        due("full: a SIGHT more", x.seen(0, 1), FULL);
        due("full: a SIGHT holds", Check.say(x, "AC.").fits(-1), 1);
        due("full: a SIGHT does not hold", Check.say(x, "A.").fits(-1), 0);
        due("full: must not", Check.say(x, ".AB.").broken(), 1);
        due("full: must", Check.say(x, "..H.").broken(), 2);
    }

    private static void dueEmpty(StageCount x) {
        due("empty: THE LAW", x.told(1), 0);
        due("empty: K", x.told(2), 3);
        due("empty: CHANGE", x.told(3), 0);
        due("empty: SCENES", x.told(4), 0);
        due("empty: SIGHTS", x.told(5), 0);
        due("empty: SCENE 0", x.told(10), OUTSIDE);
        due("empty: all MAY", Check.say(x, "AB.H.").broken(), NONE);
        due("empty: no SIGHT", x.fits(-1), 1);
        due("empty: no order", x.order(-1), 0);
    }

    /** "restore: .. OUTSIDE" */
    private static void restoreOutside() {
        StageCount x = new StageCount();
        x.image(0);
        x.image(1);
        for (int n : Check.WIDE) {
            due("restore(" + n + ")", x.restore(n), n == 0 || n == 1 ? 1 : OUTSIDE);
            due("of a new object: restore(" + n + ")", new StageCount().restore(n), n == 0 || n == 1 ? STATE : OUTSIDE);
        }
    }

    /** "restore: .. STATE: it was not." */
    private static void restoreState() {
        StageCount x = new StageCount();
        x.set(1, 5);
        due("none was kept", x.restore(0), STATE);
        due("nor the other", x.restore(1), STATE);
        x.image(1);
        x.set(1, 4);
        due("the other was", x.restore(0), STATE);
        due("K stays", x.told(2), 4);
        due("this one was", x.restore(1), 1);
        due("K is as kept", x.told(2), 5);
        due("another object's IMAGE is not its own", new StageCount().restore(1), STATE);
    }

    /** "told(what): 0 signs, 1 THE LAW, 2 K, 3 CHANGE, 4 SCENES, 5 SIGHTS, 10 on the SCENES." */
    private static void toldOfEach() {
        StageCount x = Check.stage(Check.dots(40));
        fill(x);
        due("signs, full", x.told(0), 40);
        dueFull(x);
        x.wipe();
        x.strike();
        x.forget();
        due("signs, empty", x.told(0), 0);
        due("SCENES, empty", x.told(4), 0);
        due("SIGHTS, empty", x.told(5), 0);
    }

    /** "told: .. OUTSIDE (also of SCENES that there are not)." */
    private static void toldOutside() {
        for (int scenes = 0; scenes <= 6; scenes++) {
            StageCount x = new StageCount();
            for (int i = 0; i < scenes; i++) {
                x.scene(100 + i);
            }
            for (int what = -20; what <= 60; what++) {
                boolean isScene = what >= 10 && what < 10 + scenes;
                boolean isOther = what >= 0 && what <= 5;
                int want = isScene ? 90 + what : what == 2 ? 3 : what == 4 ? scenes : isOther ? 0 : OUTSIDE;
                due("told(" + what + ") of " + scenes + " SCENES", x.told(what), want);
            }
            for (int what : Check.WIDE) {
                if (what < 0 || what > 15) {
                    due("told(" + what + ") of " + scenes + " SCENES", x.told(what), OUTSIDE);
                }
            }
        }
    }
}
