/** Section 2 of the document (lines) and promises 7 to 12: a test for each sentence that names a boundary. */
public final class EdgeLinesTest {
    private static final int UNKNOWN = -1, OUTSIDE = -2, STATE = -3, NO = -5, NONE = -6;
    private static final String ALL_COME = "ABCDEFGH";

    private static final Check check = new Check();

    private static void due(String call, int got, int want) {
        check.due(call, got, want);
    }

    public static void main(String[] args) {
        playWithoutAsked();
        playAllWhoseEventsCanBe();
        onAsBits();
        onOutside();
        onRefusalsAhead();
        howManyLines();
        howManyComings();
        linesOfAPart();
        linesUnknown();
        mayAsAtFirst();
        mustNot();
        must();
        theFirstLineThatBreaks();
        mayHowItWas();
        mayUnknown();
        mayOutside();
        brokenNone();
        strangersAtALine();
        strangersByJustKUnderEachLaw();
        whoStaysDoesNotCome();
        theMostAtOneLine();
        theBar();
        noneOfAllThese();
        strangersOfNoLine();
        strangersOutside();
        strangersRefusalsAhead();
        cutsOfThoseThatBreak();
        cutsByTheMostThatCanStay();
        cutsWithKAtTheFirst();
        cutsOfNoLine();
        check.end();
    }

    /** What is asked of the LINES, without a LINE or a PART that there is not. */
    private static void dueOfLines(String play, int want) {
        StageCount x = Check.stage(play);
        due("judge(2) of " + play, x.judge(2), want);
        due("on(0) of " + play, x.on(0), want);
        for (int part = -2; part < 8; part++) {
            due("lines(" + part + ") of " + play, x.lines(part), want);
        }
        due("broken() of " + play, x.broken(), want);
        for (int what = 0; what <= 2; what++) {
            due("strangers(" + what + ") of " + play, x.strangers(what), want);
        }
        due("strangers(10) of " + play, x.strangers(10), want);
        for (int law = 0; law <= 2; law++) {
            x.set(0, law);
            due("cuts() by law " + law + " of " + play, x.cuts(), want);
        }
        for (int part = -1; part < 8; part++) {
            due("cast(" + part + ") of " + play, x.cast(part), want);
        }
        for (int part = 0; part < 8; part++) {
            due("ill(" + part + ", 0) of " + play, x.ill(part, 0), want);
        }
    }

    /** "Of a PLAY without ?" */
    private static void playWithoutAsked() {
        dueOfLines("?.", STATE);
        dueOfLines("ABC.?", STATE);
        dueOfLines("???.", STATE);
        dueOfLines("AA.?", STATE);
        dueOfLines("????.", NO);
        dueOfLines("?.*", NO);
    }

    /** "Of a PLAY .., all whose EVENTS can be" */
    private static void playAllWhoseEventsCanBe() {
        dueOfLines("A.A", NO);
        dueOfLines("a.", NO);
        dueOfLines("ABC.abcc", NO);
        dueOfLines("A.*", NO);
        dueOfLines("*", NO);
        StageCount x = Check.stage("A.a");
        due("with each EVENT that can be", x.on(0), 1);
        x.say('a');
        due("with one more that can not be", x.on(0), NO);
    }

    /** "who is ON at a LINE, as bits" */
    private static void onAsBits() {
        due("nobody", Check.stage(".").on(0), 0);
        due("all", Check.stage(ALL_COME + ".").on(0), 255);
        due("all but A", Check.stage(ALL_COME + ".a.").on(1), 254);
        due("all but H", Check.stage(ALL_COME + "h.").on(0), 127);
        due("who came and went", Check.stage("BAb.").on(0), 1);
        due("who comes behind", Check.stage("A.B").on(0), 1);
    }

    /** "on(line): .. OUTSIDE: there is no such LINE" */
    private static void onOutside() {
        StageCount x = Check.stage("A.B..C");
        for (int line : Check.WIDE) {
            int want = line == 0 ? 1 : line == 1 || line == 2 ? 3 : OUTSIDE;
            due("on(" + line + ") of three", x.on(line), want);
            due("on(" + line + ") of none", Check.stage("A").on(line), OUTSIDE);
            due("on(" + line + ") of 40", Check.stage(Check.dots(40)).on(line), line >= 0 && line < 40 ? 0 : OUTSIDE);
        }
    }

    /** "on: .. NO, STATE (both ahead), as of the LINE of judge()." */
    private static void onRefusalsAhead() {
        for (int line : Check.WIDE) {
            due("a FAULT: on(" + line + ")", Check.stage("A.*").on(line), NO);
            due("a ?: on(" + line + ")", Check.stage("A.?").on(line), STATE);
            due("what can not be: on(" + line + ")", Check.stage("A.b").on(line), NO);
        }
    }

    /** "how many LINES" */
    private static void howManyLines() {
        due("of an empty PAD", new StageCount().lines(-1), 0);
        due("of none", Check.stage("Aa").lines(-1), 0);
        due("of one", Check.stage("A.a").lines(-1), 1);
        due("of forty", Check.stage(Check.dots(40)).lines(-1), 40);
    }

    /** "COMINGS" */
    private static void howManyComings() {
        due("of an empty PAD", new StageCount().lines(-2), 0);
        due("of LINES alone", Check.stage("...").lines(-2), 0);
        due("of goings none", Check.stage("A.a").lines(-2), 1);
        due("of one again and again", Check.stage("AaAaAaAaAaAaAaAaAaAaAaAaAaAaAaAaAaAaAaAa").lines(-2), 20);
        due("of all", Check.stage(ALL_COME).lines(-2), 8);
        due("behind the last LINE", Check.stage("A.B").lines(-2), 2);
    }

    /** "LINES of a PART (at how many it is ON)" */
    private static void linesOfAPart() {
        due("who does not come", Check.stage("A.").lines(1), 0);
        due("who comes and goes ahead of each LINE", Check.stage("Aa.").lines(0), 0);
        due("who comes behind the last LINE", Check.stage(".A").lines(0), 0);
        due("at 39", Check.stage("A" + Check.dots(39)).lines(0), 39);
        due("H at 39", Check.stage("H" + Check.dots(39)).lines(7), 39);
        due("at all but one", Check.stage("AB.a.A.").lines(0), 2);
        due("at all", Check.stage("AB.a.A.").lines(1), 3);
    }

    /** "lines: .. UNKNOWN" */
    private static void linesUnknown() {
        for (int part : Check.WIDE) {
            if (part < -2 || part > 7) {
                due("lines(" + part + ")", Check.stage("A.").lines(part), UNKNOWN);
                due("ahead of NO: " + part, Check.stage("*").lines(part), UNKNOWN);
                due("ahead of STATE: " + part, Check.stage("?").lines(part), UNKNOWN);
            }
        }
    }

    /** "MAY: two PARTS may be ON together (0: as at first)" */
    private static void mayAsAtFirst() {
        StageCount x = Check.stage(ALL_COME + ".abcdefgh.A.");
        due("at first", x.broken(), NONE);
        x.may(0, 1, 1);
        x.may(0, 1, 0);
        due("no longer must not", x.broken(), NONE);
        x.may(0, 1, 2);
        x.may(0, 1, 0);
        due("no longer must", x.broken(), NONE);
    }

    /** "must not (1)" */
    private static void mustNot() {
        for (int part = 0; part < 8; part++) {
            for (int other = 0; other < 8; other++) {
                if (part != other) {
                    due("both, " + part + other, broken(part, other, 1, true, true), 0);
                    due("neither, " + part + other, broken(part, other, 1, false, false), NONE);
                    due("one, " + part + other, broken(part, other, 1, true, false), NONE);
                }
            }
        }
    }

    /** "must (2: whenever one of them is ON the other one is)" */
    private static void must() {
        for (int part = 0; part < 8; part++) {
            for (int other = 0; other < 8; other++) {
                if (part != other) {
                    due("both, " + part + other, broken(part, other, 2, true, true), NONE);
                    due("neither, " + part + other, broken(part, other, 2, false, false), NONE);
                    due("the one, " + part + other, broken(part, other, 2, true, false), 0);
                    due("the other, " + part + other, broken(part, other, 2, false, true), 0);
                }
            }
        }
    }

    private static int broken(int part, int other, int how, boolean isPartOn, boolean isOtherOn) {
        StageCount x = new StageCount();
        x.may(part, other, how);
        if (isPartOn) {
            x.say('A' + part);
        }
        if (isOtherOn) {
            x.say('A' + other);
        }
        x.say('.');
        return x.broken();
    }

    /** "the first LINE that breaks that" */
    private static void theFirstLineThatBreaks() {
        StageCount x = Check.stage("A.B.C.cb.B.");
        x.may(1, 2, 1);
        due("by one that must not", x.broken(), 2);
        x.may(0, 1, 2);
        due("by one that must, ahead", x.broken(), 0);
        x.may(0, 1, 1);
        due("of two LINES the first", x.broken(), 1);
        x.may(0, 1, 0);
        x.may(1, 2, 2);
        due("one comes later", x.broken(), 1);
        Check.say(x, "BC" + Check.dots(35) + "b.");
        due("the last LINE", x.broken(), 35);
        due("together between the LINES alone", Check.say(x, "A.BbA").broken(), NO);
        due("alone between the LINES alone", Check.say(x, "A.BCbcB").broken(), NONE);
    }

    /** "may(part, other, how): Two PARTS MAY be ON together: how it was." */
    private static void mayHowItWas() {
        StageCount x = new StageCount();
        for (int was = 0; was <= 2; was++) {
            for (int how = 0; how <= 2; how++) {
                x.may(0, 7, was);
                due("from " + was + " to " + how, x.may(0, 7, how), was);
                due("told the other way round", x.may(7, 0, how), how);
                due("another pair", x.may(0, 6, 0), 0);
            }
        }
    }

    /** "may: .. UNKNOWN: also both are one" */
    private static void mayUnknown() {
        for (int part : Check.WIDE) {
            for (int how = -1; how <= 3; how++) {
                due("both are " + part + ", how " + how, new StageCount().may(part, part, how), UNKNOWN);
                if (part < 0 || part > 7) {
                    due("may(" + part + ", 0, " + how + ")", new StageCount().may(part, 0, how), UNKNOWN);
                    due("may(7, " + part + ", " + how + ")", new StageCount().may(7, part, how), UNKNOWN);
                }
            }
        }
    }

    /** "may: .. OUTSIDE: 0 to 2." */
    private static void mayOutside() {
        for (int how : Check.WIDE) {
            StageCount x = new StageCount();
            x.may(3, 4, 2);
            boolean isTold = how >= 0 && how <= 2;
            due("may(3, 4, " + how + ")", x.may(3, 4, how), isTold ? 2 : OUTSIDE);
            due("how it is behind " + how, x.may(4, 3, 0), isTold ? how : 2);
        }
    }

    /** "broken(): The first LINE that breaks what MAY be; NONE." */
    private static void brokenNone() {
        StageCount x = new StageCount();
        x.may(0, 1, 1);
        x.may(2, 3, 2);
        due("of an empty PAD", x.broken(), NONE);
        due("of no LINE", Check.say(x, "ABC").broken(), NONE);
        due("of a LINE with nobody on", Check.say(x, ".").broken(), NONE);
        due("of all LINES", Check.say(x, "A.aB.CD.cdE.").broken(), NONE);
    }

    /** "at each LINE K less who is ON must be strangers: how many at a LINE" */
    private static void strangersAtALine() {
        for (int k = 0; k <= 8; k++) {
            for (int many = 0; many <= 8; many++) {
                StageCount x = Check.stage(ALL_COME.substring(0, many) + ".");
                x.set(1, k);
                int want = many > k ? NONE : k - many;
                due("at LINE 0, K " + k + ", on are " + many, x.strangers(10), want);
                due("comings, K " + k + ", on are " + many, x.strangers(0), want);
                due("the most, K " + k + ", on are " + many, x.strangers(1), want);
                due("the BAR, K " + k + ", on are " + many, x.strangers(2), many > k ? 0 : NONE);
            }
        }
        StageCount x = Check.stage("A" + Check.dots(39));
        due("at LINE 38", x.strangers(48), 2);
        due("no LINE 39", x.strangers(49), OUTSIDE);
        due("at LINE 39", Check.stage(Check.dots(40)).strangers(49), 3);
        due("no LINE 40", Check.stage(Check.dots(40)).strangers(50), OUTSIDE);
    }

    /** "STRANGERS, by THE LAW of just K" */
    private static void strangersByJustKUnderEachLaw() {
        StageCount x = Check.stage("A.B.a.");
        for (int law = 0; law <= 2; law++) {
            x.set(0, law);
            x.set(1, 3);
            due("comings under law " + law, x.strangers(0), 3);
            due("the most under law " + law, x.strangers(1), 2);
            due("the BAR under law " + law, x.strangers(2), NONE);
            due("at LINE 1 under law " + law, x.strangers(11), 1);
            x.set(1, 1);
            due("barred under law " + law, x.strangers(2), 1);
        }
    }

    /** "the fewest COMINGS of strangers in all (one who stays does not come)" */
    private static void whoStaysDoesNotCome() {
        StageCount x = new StageCount();
        x.set(1, 2);
        due("two stay for forty LINES", Check.say(x, Check.dots(40)).strangers(0), 2);
        due("one goes, one stays", Check.say(x, ".A.").strangers(0), 2);
        due("one goes and comes again", Check.say(x, ".A.a.").strangers(0), 3);
        due("both go and come again", Check.say(x, ".AB.ab.").strangers(0), 4);
        due("none ahead, then one, then two", Check.say(x, "AB.a.b.").strangers(0), 2);
        due("one stays for another PART", Check.say(x, "A.aB.bC.").strangers(0), 1);
    }

    /** "the most at one LINE" */
    private static void theMostAtOneLine() {
        due("at the first", Check.stage(".A.B.").strangers(1), 3);
        due("at the last", Check.stage("ABC.a.b.c.").strangers(1), 3);
        due("in between", Check.stage("AB.b.B.").strangers(1), 2);
        due("none", Check.stage("ABC...").strangers(1), 0);
    }

    /** "if at some LINE more than K are ON: the first such LINE is the BAR" */
    private static void theBar() {
        due("just K are no BAR", Check.stage("ABC.").strangers(2), NONE);
        due("LINE 0", Check.stage("ABCD.d.").strangers(2), 0);
        due("the first of two", Check.stage("A.BCD.d.D.").strangers(2), 1);
        due("the last LINE", Check.stage("ABC" + Check.dots(35) + "D.").strangers(2), 35);
        due("more between the LINES alone", Check.stage("ABCDd.").strangers(2), NONE);
        due("more behind the last LINE", Check.stage("ABC.D").strangers(2), NONE);
    }

    /** "NONE (all of these) if at some LINE more than K are ON" */
    private static void noneOfAllThese() {
        StageCount x = Check.stage("A.BCD.d.");
        due("comings", x.strangers(0), NONE);
        due("the most", x.strangers(1), NONE);
        due("at the LINE ahead of the BAR", x.strangers(10), NONE);
        due("at the BAR", x.strangers(11), NONE);
        due("at the LINE behind the BAR", x.strangers(12), NONE);
        due("no such LINE", x.strangers(13), OUTSIDE);
    }

    /** "strangers: .. 10 on at a LINE": a PLAY of no LINE */
    private static void strangersOfNoLine() {
        StageCount x = Check.stage("ABCDE");
        due("comings", x.strangers(0), 0);
        due("the most", x.strangers(1), 0);
        due("the BAR", x.strangers(2), NONE);
        due("at LINE 0", x.strangers(10), OUTSIDE);
    }

    /** "strangers: .. OUTSIDE" */
    private static void strangersOutside() {
        StageCount x = Check.stage("ABC...");
        for (int what : Check.WIDE) {
            int want = what == 2 ? NONE : what == 0 || what == 1 || what >= 10 && what <= 12 ? 0 : OUTSIDE;
            due("strangers(" + what + ") of three LINES", x.strangers(what), want);
        }
    }

    /** "strangers: .. NO, STATE (both ahead), likewise." */
    private static void strangersRefusalsAhead() {
        for (int what : Check.WIDE) {
            due("a FAULT: strangers(" + what + ")", Check.stage("A.*").strangers(what), NO);
            due("a ?: strangers(" + what + ")", Check.stage("A.?").strangers(what), STATE);
            due("what can not be: strangers(" + what + ")", Check.stage("A.b").strangers(what), NO);
        }
    }

    /** "CUTS: the fewest LINES to be cut so that THE LAW holds at those that stay (0: those that break it ..)" */
    private static void cutsOfThoseThatBreak() {
        due("none", Check.stage("ABC...").cuts(), 0);
        due("all of forty", Check.stage(Check.dots(40)).cuts(), 40);
        due("the first and the last", Check.stage(".ABC.a.").cuts(), 2);
        StageCount x = Check.stage(".A.B.C.D.E.F.G.H.");
        for (int k = 0; k <= 8; k++) {
            x.set(1, k);
            due("all but that of " + k, x.cuts(), 8);
        }
        x.set(0, 1);
        due("the even ones", x.cuts(), 5);
    }

    /** "CUTS: .. 2: by the most that can stay" */
    private static void cutsByTheMostThatCanStay() {
        StageCount x = new StageCount();
        x.set(0, 2);
        x.set(1, 0);
        due("ever more: none", Check.say(x, ".A.B.C.D.E.F.G.H.").cuts(), 0);
        due("ever fewer: all but one", Check.say(x, ALL_COME + ".h.g.f.e.d.c.b.a.").cuts(), 8);
        due("as many may stay", Check.say(x, "AB.aC.bA.").cuts(), 0);
        due("forty with nobody on", Check.say(x, Check.dots(40)).cuts(), 0);
        due("the high one ahead goes", Check.say(x, "ABC.abc.A.B.").cuts(), 1);
        due("the low one behind goes", Check.say(x, "A.B.ab.").cuts(), 1);
        due("the low one in between goes", Check.say(x, "AB.ab.AB.C.").cuts(), 1);
        due("not the first that fit", Check.say(x, "A.BCD.bcd.B.b..").cuts(), 2);
    }

    /** "CUTS: .. K at least being on at the first of these" */
    private static void cutsWithKAtTheFirst() {
        StageCount x = Check.stage(".A.B.C.D.E.F.G.H.");
        x.set(0, 2);
        for (int k = 0; k <= 8; k++) {
            x.set(1, k);
            due("those below " + k, x.cuts(), k);
        }
        x.set(1, 3);
        due("no LINE can stay", Check.say(x, "A.B.a.").cuts(), 3);
        due("one can, which is not LINE 0", Check.say(x, "A.BC.a.").cuts(), 2);
    }

    /** "cuts(): CUTS.": of no LINE */
    private static void cutsOfNoLine() {
        StageCount x = new StageCount();
        for (int law = 0; law <= 2; law++) {
            x.set(0, law);
            due("of an empty PAD, law " + law, Check.say(x, "").cuts(), 0);
            due("of no LINE, law " + law, Check.say(x, "AB").cuts(), 0);
        }
    }
}
