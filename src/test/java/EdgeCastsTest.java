import java.util.Arrays;

/** Section 3 of the document (casts, scenes) and promises 13 to 17: a test for each sentence that names a boundary. */
public final class EdgeCastsTest {
    private static final int UNKNOWN = -1, OUTSIDE = -2, STATE = -3, FULL = -4, NO = -5, NONE = -6;
    private static final String ALL_COME = "ABCDEFGH";

    private static final Check check = new Check();

    private static void due(String call, int got, int want) {
        check.due(call, got, want);
    }

    public static void main(String[] args) {
        neverOnAtOneLine();
        changeLinesAtLeast();
        changeToAnyOfHisLines();
        theFewestPlayers();
        partsThatHaveALine();
        numberedAsTheyFirstComeByParts();
        theFirstOfSeveralCasts();
        castUnknown();
        castRefused();
        illAheadOfALine();
        illPartsFromTheLineOn();
        illAnotherPlayerOfTheCast();
        illAllLinesOfHisOwn();
        illLinesOfThePartFromThatOneOn();
        illWithChangeLines();
        illPartOfNoLine();
        illUnknown();
        illOutside();
        illRefusalsAhead();
        scenesZeroToFive();
        sceneBits();
        scenesFull();
        strikeHowMany();
        orderOfNoScene();
        orderOfOneScene();
        nobodyIsOnAheadAndBehind();
        whoStaysOnDoesNeither();
        theFirstByNumbers();
        orderOfSix();
        orderNone();
        check.end();
    }

    private static void dueCast(String play, int change, int players, int... playerOf) {
        StageCount x = Check.stage(play);
        x.set(2, change);
        due("players of " + play, x.cast(-1), players);
        for (int part = 0; part < 8; part++) {
            due("the player of PART " + part + " in " + play, x.cast(part), part < playerOf.length ? playerOf[part] : NONE);
        }
    }

    /** "two PARTS can be one player's, if they are never ON at one LINE" */
    private static void neverOnAtOneLine() {
        StageCount x = new StageCount();
        dueCast("A.aB.", 0, 1, 0, 0);
        dueCast("AB.", 0, 2, 0, 1);
        dueCast("A.B.a.", 0, 2, 0, 1);
        dueCast("ABb.aB.", 0, 1, 0, 0);
        dueCast("A.B", 0, 1, 0);
        dueCast("A" + Check.dots(34) + "B.ab", 0, 2, 0, 1);
        for (int part = 1; part < 8; part++) {
            x.wipe();
            x.say('A');
            x.say('.');
            x.say('A' + part);
            x.say('.');
            due("A and " + part + " at the last LINE", x.cast(part), 1);
        }
    }

    /** "between any LINE of one and any LINE of the other there are CHANGE LINES at least (0 to 9; 0 at first)" */
    private static void changeLinesAtLeast() {
        for (int change = 0; change <= 9; change++) {
            for (int between = 0; between <= 12; between++) {
                int players = between >= change ? 1 : 2;
                dueCast("A.a" + Check.dots(between) + "B.", change, players, 0, players - 1);
                dueCast("B.b" + Check.dots(between) + "A.", change, players, 0, players - 1);
            }
        }
        due("0 at first", Check.stage("A.aB.").cast(-1), 1);
    }

    /** "between any LINE of one and any LINE of the other" */
    private static void changeToAnyOfHisLines() {
        dueCast("A.a..B.b..A.", 2, 1, 0, 0);
        dueCast("A.a..B.b.A.", 2, 2, 0, 1);
        dueCast("A.a.B.b..A.", 2, 2, 0, 1);
        dueCast("A.a..B..b..A.", 2, 1, 0, 0);
        dueCast(".........A.a.........B.", 9, 1, 0, 0);
        dueCast(".........A.a........B.", 9, 2, 0, 1);
    }

    /** "The fewest players" */
    private static void theFewestPlayers() {
        dueCast(ALL_COME + ".", 0, 8, 0, 1, 2, 3, 4, 5, 6, 7);
        dueCast("A.aB.bC.cD.dE.eF.fG.gH.", 0, 1, 0, 0, 0, 0, 0, 0, 0, 0);
        dueCast("A.aB.bC.cD.dE.eF.fG.gH.", 9, 8, 0, 1, 2, 3, 4, 5, 6, 7);
        // a ring of five: each is on with the next one, so two players can not be enough
        dueCast("AB.aC.bD.cE.dA.", 0, 3, 0, 1, 0, 1, 2);
    }

    /** "for all PARTS that have a LINE" */
    private static void partsThatHaveALine() {
        dueCast("", 0, 0);
        dueCast("...", 0, 0);
        dueCast(ALL_COME, 0, 0);
        dueCast("Aa.", 0, 0);
        dueCast(".A", 0, 0);
        dueCast("AaB.", 0, 1, NONE, 0);
        dueCast("ABaH.", 0, 2, NONE, 0, NONE, NONE, NONE, NONE, NONE, 1);
    }

    /** "PLAYERS are numbered as they first come by PARTS" */
    private static void numberedAsTheyFirstComeByParts() {
        dueCast("HG.A.", 0, 3, 0, NONE, NONE, NONE, NONE, NONE, 1, 2);
        dueCast("C.cB.A.", 0, 2, 0, 1, 0);
        dueCast("BC.bcA.", 0, 2, 0, 0, 1);
    }

    /** "of several casts the first by PARTS' players" */
    private static void theFirstOfSeveralCasts() {
        dueCast("AD.adBC.", 0, 2, 0, 0, 1, 1);
        dueCast("AB.abCD.", 0, 2, 0, 1, 0, 1);
        dueCast("AB.aC.", 0, 2, 0, 1, 0);
        dueCast("AB.abC.", 0, 2, 0, 1, 0);
        // A with B would need a third player: the fewest players go ahead of the first by PARTS
        dueCast("AC.aD.cB.", 0, 2, 0, 1, 1, 0);
    }

    /** "cast: .. UNKNOWN" */
    private static void castUnknown() {
        for (int part : Check.WIDE) {
            if (part < -1 || part > 7) {
                due("cast(" + part + ")", Check.stage("A.").cast(part), UNKNOWN);
                due("ahead of NO: " + part, Check.stage("*").cast(part), UNKNOWN);
                due("ahead of STATE: " + part, Check.stage("?").cast(part), UNKNOWN);
            }
        }
    }

    /** "cast: .. NO, STATE, likewise." */
    private static void castRefused() {
        for (int part = -1; part < 8; part++) {
            due("a FAULT: " + part, Check.stage("A.*").cast(part), NO);
            due("a ?: " + part, Check.stage("A.?").cast(part), STATE);
            due("a ? ahead of what can not be: " + part, Check.stage("A.A?").cast(part), STATE);
            due("what can not be: " + part, Check.stage("A.A").cast(part), NO);
        }
    }

    /** "the player of a PART (in that cast) falls ill ahead of a LINE" */
    private static void illAheadOfALine() {
        // A at 0 and 3, B at 0: two players
        StageCount x = Check.stage("AB.ab..A.");
        due("ahead of the first LINE", x.ill(0, 0), 1);
        due("ahead of the LINE behind it", x.ill(0, 1), 0);
        due("ahead of the last LINE", x.ill(0, 3), 0);
        due("who has no LINE from it on", x.ill(1, 1), 0);
        due("who has", x.ill(1, 0), 1);
        Check.say(x, "AB" + Check.dots(38));
        due("at the last LINE of 38", x.ill(0, 37), 1);
        due("no LINE 38", x.ill(0, 38), OUTSIDE);
    }

    /** "each PART of his that has a LINE from it on must be taken over" */
    private static void illPartsFromTheLineOn() {
        // one player has A, B and C, each with one LINE; nobody else is there
        StageCount x = Check.stage("A.aB.bC.");
        due("all three", x.ill(0, 0), 3);
        due("two", x.ill(0, 1), 2);
        due("one", x.ill(0, 2), 1);
        due("told by another PART of his", x.ill(2, 0), 3);
        due("told by a PART that is over", x.ill(0, 2), 1);
    }

    /** "by another player of the cast" */
    private static void illAnotherPlayerOfTheCast() {
        due("there is none", Check.stage("A.").ill(0, 0), 1);
        due("who has no PART does not help", Check.stage("A.B").ill(0, 0), 1);
        due("there is one who is never with him", Check.stage("AC.acB.bA.").ill(0, 2), 0);
        // players 0: A, 1: B, 2: C; at LINE 1 A is on with B, at LINE 2 with C, at LINE 3 alone
        StageCount x = Check.stage("ABC.c.bC.c.");
        due("the one is in the way, so is the other", x.ill(0, 0), 1);
        due("the one can ahead of the other", x.ill(1, 1), 0);
        due("behind both", x.ill(0, 3), 0);
        due("the other one can", x.ill(0, 2), 0);
        // the ill one's two PARTS are taken over by one
        Check.say(x, "AC.acA.aB.");
        due("two PARTS by one", x.ill(0, 1), 0);
    }

    /** "by one whose own PARTS (all their LINES)" */
    private static void illAllLinesOfHisOwn() {
        // A at 0 and 3, B at 0 and 2: from LINE 3 on B's player has none, but his LINE 2 is just ahead
        StageCount x = Check.stage("AB.ab.B.bA.");
        due("no LINE between is needed", x.ill(0, 3), 0);
        x.set(2, 1);
        due("one is", x.ill(0, 3), 1);
        // B's player is C too, who is with A at LINE 3
        Check.say(x, "AB.b..aC.A.");
        x.set(2, 0);
        due("C is B's player's too", x.cast(2), 1);
        due("B's player is in the way as C", x.ill(0, 1), 1);
        due("not behind it, but there is no such LINE", x.ill(0, 5), OUTSIDE);
    }

    /** "that PART (its LINES from that one on)" */
    private static void illLinesOfThePartFromThatOneOn() {
        StageCount x = Check.stage("AB.b..");
        due("together at LINE 0, from it on", x.ill(0, 0), 1);
        due("together at LINE 0, behind it", x.ill(0, 1), 0);
        x.set(2, 1);
        due("too near behind it", x.ill(0, 1), 1);
        due("one LINE is between", x.ill(0, 2), 0);
    }

    /** "could be one player's, as above": CHANGE LINES at least */
    private static void illWithChangeLines() {
        for (int change = 0; change <= 9; change++) {
            for (int between = 0; between <= 12; between++) {
                StageCount x = Check.stage("AB.ab" + Check.dots(between) + "A.");
                x.set(2, change);
                due(between + " between, CHANGE " + change, x.ill(0, between + 1), between >= change ? 0 : 1);
            }
        }
    }

    /** "(0, if the PART has no LINE)" */
    private static void illPartOfNoLine() {
        StageCount x = Check.stage("AB.C");
        for (int part = 2; part < 8; part++) {
            due("PART " + part, x.ill(part, 0), 0);
        }
        due("who has one", x.ill(1, 0), 1);
        due("who comes and goes between LINES", Check.stage("A.Bb.").ill(1, 0), 0);
    }

    /** "ill: .. UNKNOWN" */
    private static void illUnknown() {
        for (int part : Check.WIDE) {
            if (part < 0 || part > 7) {
                due("ill(" + part + ", 0)", Check.stage("A.").ill(part, 0), UNKNOWN);
                due("ahead of OUTSIDE: " + part, Check.stage("A.").ill(part, 1), UNKNOWN);
                due("ahead of NO: " + part, Check.stage("*").ill(part, 0), UNKNOWN);
                due("ahead of STATE: " + part, Check.stage("?").ill(part, -1), UNKNOWN);
            }
        }
    }

    /** "ill: .. OUTSIDE: there is no such LINE" */
    private static void illOutside() {
        StageCount x = Check.stage("A.a..B");
        for (int line : Check.WIDE) {
            boolean isLine = line >= 0 && line < 3;
            due("ill(0, " + line + ")", x.ill(0, line), !isLine ? OUTSIDE : line == 0 ? 1 : 0);
            due("of a PART that has no LINE: " + line, x.ill(1, line), isLine ? 0 : OUTSIDE);
            due("of an empty PAD: " + line, new StageCount().ill(0, line), OUTSIDE);
        }
    }

    /** "ill: .. NO, STATE (both ahead of OUTSIDE), likewise." */
    private static void illRefusalsAhead() {
        for (int line : Check.WIDE) {
            due("a FAULT: ill(0, " + line + ")", Check.stage("A.*").ill(0, line), NO);
            due("a ?: ill(0, " + line + ")", Check.stage("A.?").ill(0, line), STATE);
            due("a ? behind what can not be: ill(7, " + line + ")", Check.stage("A.A?").ill(7, line), STATE);
            due("what can not be: ill(0, " + line + ")", Check.stage("A.A").ill(0, line), NO);
        }
    }

    private static StageCount scenes(int... sets) {
        StageCount x = new StageCount();
        for (int set : sets) {
            x.scene(set);
        }
        return x;
    }

    private static void dueOrder(int[] sets, int fewest, int... order) {
        StageCount x = scenes(sets);
        String of = Arrays.toString(sets);
        due("come and go in " + of, x.order(-1), fewest);
        for (int i = 0; i < 8; i++) {
            due("SCENE " + i + " of " + of, x.order(i), i < order.length ? order[i] : NONE);
        }
    }

    /** "SCENES 0 to 5 .., as many as are told one behind another" */
    private static void scenesZeroToFive() {
        StageCount x = new StageCount();
        for (int i = 0; i < 6; i++) {
            due("no SCENE " + i + " yet", x.told(10 + i), OUTSIDE);
            due("SCENE " + i, x.scene(40 * i), i + 1);
            due("on SCENE " + i, x.told(10 + i), 40 * i);
        }
        due("no SCENE 6", x.told(16), OUTSIDE);
    }

    /** "scene(set): .. OUTSIDE: bits 0 to 255" */
    private static void sceneBits() {
        for (int set = 0; set <= 255; set++) {
            StageCount x = new StageCount();
            due("scene(" + set + ")", x.scene(set), 1);
            due("who is ON in it: " + set, x.told(10), set);
            due("all come and go: " + set, x.order(-1), 2 * Integer.bitCount(set));
        }
        for (int set : Check.WIDE) {
            if (set < 0 || set > 255) {
                StageCount x = new StageCount();
                due("scene(" + set + ")", x.scene(set), OUTSIDE);
                due("no SCENE by " + set, x.told(4), 0);
            }
        }
    }

    /** "scene: .. FULL: 6." */
    private static void scenesFull() {
        StageCount x = scenes(1, 2, 3, 4, 5);
        due("the sixth", x.scene(6), 6);
        due("the seventh", x.scene(7), FULL);
        due("the seventh with nobody", x.scene(0), FULL);
        due("OUTSIDE ahead of FULL", x.scene(256), OUTSIDE);
        due("six stay", x.told(4), 6);
        due("the sixth stays", x.told(15), 6);
    }

    /** "strike(): SCENES go: how many there were." */
    private static void strikeHowMany() {
        due("of none", new StageCount().strike(), 0);
        due("of one", scenes(0).strike(), 1);
        StageCount x = scenes(1, 2, 3, 4, 5, 6);
        due("of six", x.strike(), 6);
        due("they went", x.told(4), 0);
        due("no first", x.told(10), OUTSIDE);
        due("nobody comes", x.order(-1), 0);
        due("no longer full", x.scene(7), 1);
    }

    /** "order(-1)" of no SCENE */
    private static void orderOfNoScene() {
        dueOrder(new int[] {}, 0);
    }

    /** "order" of one SCENE */
    private static void orderOfOneScene() {
        dueOrder(new int[] {0}, 0, 0);
        dueOrder(new int[] {255}, 16, 0);
        dueOrder(new int[] {128}, 2, 0);
    }

    /** "(nobody is on ahead and behind ..)" */
    private static void nobodyIsOnAheadAndBehind() {
        // 1 and 3: 1 comes, 1 comes, 2 go, either way round
        dueOrder(new int[] {3, 1}, 4, 0, 1);
        // the many of the middle come and go one by one
        dueOrder(new int[] {1, 2, 3}, 4, 0, 2, 1);
        dueOrder(new int[] {255, 0}, 16, 0, 1);
        dueOrder(new int[] {0, 0, 0, 0, 0, 0}, 0, 0, 1, 2, 3, 4, 5);
    }

    /** "(.. who stays on does neither)" */
    private static void whoStaysOnDoesNeither() {
        dueOrder(new int[] {3, 3}, 4, 0, 1);
        dueOrder(new int[] {1, 2}, 4, 0, 1);
        dueOrder(new int[] {5, 2, 5}, 6, 0, 2, 1);
        dueOrder(new int[] {255, 255, 255, 255, 255, 255}, 16, 0, 1, 2, 3, 4, 5);
        dueOrder(new int[] {255, 1, 255, 1, 255, 1}, 16, 0, 2, 4, 1, 3, 5);
    }

    /** "the order by which the fewest come on and go off in all ..; the first by numbers" */
    private static void theFirstByNumbers() {
        dueOrder(new int[] {2, 1}, 4, 0, 1);
        dueOrder(new int[] {4, 2, 1}, 6, 0, 1, 2);
        // 1, 3, 2 and 2, 3, 1 are as good: the one that begins by the lower number
        dueOrder(new int[] {2, 1, 3}, 4, 0, 2, 1);
        dueOrder(new int[] {3, 2, 1}, 4, 1, 0, 2);
        dueOrder(new int[] {1, 1, 2, 2}, 4, 0, 1, 2, 3);
        dueOrder(new int[] {1, 2, 1, 2}, 4, 0, 2, 1, 3);
    }

    /** "SCENES 0 to 5": all six */
    private static void orderOfSix() {
        dueOrder(new int[] {63, 1, 31, 3, 15, 7}, 12, 0, 2, 4, 5, 3, 1);
        dueOrder(new int[] {1, 2, 4, 8, 16, 32}, 12, 0, 1, 2, 3, 4, 5);
        dueOrder(new int[] {3, 12, 6, 24, 48, 96}, 14, 0, 2, 1, 3, 4, 5);
    }

    /** "order: .. the i-th SCENE; NONE." */
    private static void orderNone() {
        StageCount x = scenes(1, 2);
        for (int i : Check.WIDE) {
            int want = i == -1 ? 4 : i == 0 || i == 1 ? i : NONE;
            due("order(" + i + ") of two", x.order(i), want);
            due("order(" + i + ") of none", new StageCount().order(i), i == -1 ? 0 : NONE);
        }
        StageCount six = scenes(0, 0, 0, 0, 0, 0);
        due("the last of six", six.order(5), 5);
        due("no seventh", six.order(6), NONE);
        due("a PLAY that can not be is nothing to it", Check.stage("*").order(-1), 0);
    }
}
