import java.util.Arrays;

/** A stage on which there must be just so many at any line. */
public final class StageCount {
    public static final int UNKNOWN = -1, OUTSIDE = -2, STATE = -3, FULL = -4, NO = -5, NONE = -6;

    private static final int PARTS = 8;
    private static final int SIGNS = 40;
    private static final int ASKED = 3;
    private static final int SCENES = 6;
    private static final int SIGHTS = 6;
    private static final int IMAGES = 2;

    private static final int LAW_JUST = 0;
    private static final int LAW_ODD = 1;
    private static final int MOST_LAW = 2;
    private static final int MOST_CHANGE = 9;

    private static final int APART = 1;
    private static final int TOGETHER = 2;

    /** Questions about one LINE, or one SCENE, are numbered from here on. */
    private static final int FROM_HERE = 10;

    /** No refusal: all refusals are below it. */
    private static final int GRANTED = 0;

    private final Rules rules;
    private final Rules[] images;
    private final boolean[] kept;
    private final Play play;
    private final Cast company;
    private final SceneOrder sceneOrder;
    private final Guess guess;
    private final int[] staying;

    public StageCount() {
        rules = new Rules();
        images = new Rules[IMAGES];
        for (int n = 0; n < images.length; n++) {
            images[n] = new Rules();
        }
        kept = new boolean[IMAGES];
        play = new Play();
        company = new Cast();
        sceneOrder = new SceneOrder();
        guess = new Guess();
        staying = new int[PARTS + 1];
    }

    // ---- 1 plays, laws

    public int set(int which, int v) {
        int was;
        if (which == 0 && isWithin(v, MOST_LAW)) {
            was = rules.law;
            rules.law = v;
        } else if (which == 1 && isWithin(v, PARTS)) {
            was = rules.k;
            rules.k = v;
        } else if (which == 2 && isWithin(v, MOST_CHANGE)) {
            was = rules.change;
            rules.change = v;
        } else {
            was = OUTSIDE;
        }
        return was;
    }

    public int say(int sign) {
        if (sign < 33 || sign > 126) {
            return OUTSIDE;
        }
        return play.add(sign);
    }

    public int wipe() {
        int were = play.count;
        play.count = 0;
        return were;
    }

    public int fault() {
        play.survey();
        return play.faultAt;
    }

    public int judge(int what) {
        if (!isWithin(what, 2)) {
            return OUTSIDE;
        }
        int refused = what == 2 ? refusalOfLines() : refusalOfEvents();
        if (refused != GRANTED) {
            return refused;
        }
        if (what == 0) {
            return play.impossibleAt;
        }
        return what == 1 ? play.why : rules.firstAgainstLaw(play);
    }

    // ---- 2 lines

    public int on(int line) {
        int refused = refusalOfLines();
        if (refused != GRANTED) {
            return refused;
        }
        return isLine(line) ? play.onAt[line] : OUTSIDE;
    }

    public int lines(int part) {
        if (part < -2 || part >= PARTS) {
            return UNKNOWN;
        }
        int refused = refusalOfLines();
        if (refused != GRANTED) {
            return refused;
        }
        if (part == -2) {
            return play.comings;
        }
        return part == -1 ? play.lineCount : Long.bitCount(play.linesOf(part));
    }

    public int may(int part, int other, int how) {
        if (!isPart(part) || !isPart(other) || part == other) {
            return UNKNOWN;
        }
        if (!isWithin(how, TOGETHER)) {
            return OUTSIDE;
        }
        return rules.setTogether(part, other, how);
    }

    public int broken() {
        int refused = refusalOfLines();
        return refused != GRANTED ? refused : rules.firstAgainstMay(play);
    }

    public int strangers(int what) {
        int refused = refusalOfLines();
        if (refused != GRANTED) {
            return refused;
        }
        boolean ofLine = what >= FROM_HERE && isLine(what - FROM_HERE);
        if (!ofLine && !isWithin(what, 2)) {
            return OUTSIDE;
        }
        int bar = bar();
        if (what == 2) {
            return bar;
        }
        if (bar != NONE) {
            return NONE;
        }
        if (ofLine) {
            return strangersAt(what - FROM_HERE);
        }
        return what == 0 ? strangersComings() : mostStrangers();
    }

    public int cuts() {
        int refused = refusalOfLines();
        if (refused != GRANTED) {
            return refused;
        }
        boolean eachLineAlone = rules.law == LAW_JUST || rules.law == LAW_ODD;
        return play.lineCount - (eachLineAlone ? linesInLaw() : longestRising());
    }

    // ---- 3 casts, scenes

    public int cast(int part) {
        if (part != -1 && !isPart(part)) {
            return UNKNOWN;
        }
        int refused = refusalOfLines();
        if (refused != GRANTED) {
            return refused;
        }
        company.choose(play, rules.change);
        return part == -1 ? company.players : company.playerOf[part];
    }

    public int ill(int part, int line) {
        if (!isPart(part)) {
            return UNKNOWN;
        }
        int refused = refusalOfLines();
        if (refused != GRANTED) {
            return refused;
        }
        if (!isLine(line)) {
            return OUTSIDE;
        }
        company.choose(play, rules.change);
        return company.notTakenOver(company.playerOf[part], line);
    }

    public int scene(int set) {
        if (!isWithin(set, 255)) {
            return OUTSIDE;
        }
        return rules.addScene(set);
    }

    public int strike() {
        int were = rules.scenes;
        rules.scenes = 0;
        return were;
    }

    public int order(int i) {
        if (i < -1 || i >= rules.scenes) {
            return NONE;
        }
        sceneOrder.choose(rules);
        return i == -1 ? sceneOrder.fewest : sceneOrder.row[i];
    }

    // ---- 4 what is not told, evenings

    public int seen(int line, int many) {
        if (!isWithin(line, SIGNS - 1) || !isWithin(many, PARTS)) {
            return OUTSIDE;
        }
        return rules.addSight(line, many);
    }

    public int forget() {
        int were = rules.sights;
        rules.sights = 0;
        return were;
    }

    public int fits(int i) {
        play.survey();
        if (play.faultAt != NONE) {
            return NO;
        }
        if (i < -1 || i >= play.asked) {
            return NONE;
        }
        guess.tryAll(play, rules);
        if (i == -1) {
            return guess.ways;
        }
        return guess.ways == 0 ? NONE : play.guessed(guess.first, i);
    }

    public int could(int i) {
        play.survey();
        if (play.faultAt != NONE) {
            return NO;
        }
        if (i < 0 || i >= play.asked) {
            return NONE;
        }
        guess.tryAll(play, rules);
        return guess.who[i];
    }

    public int evening(int seed, int m, int what) {
        if (!isWithin(seed, 9999) || m < 1 || m > 99 || !isWithin(what, 2)) {
            return OUTSIDE;
        }
        int x = seed;
        int on = 0;
        int many = 0;
        int most = 0;
        int held = 0;
        int ahead = rules.k;
        for (int event = 0; event < m; event++) {
            x = (75 * x + 74) % 65537;
            on ^= 1 << (x % PARTS);
            many = Integer.bitCount(on);
            most = Math.max(most, many);
            if (rules.holds(many, ahead)) {
                held++;
            }
            ahead = many;
        }
        if (what == 0) {
            return held;
        }
        return what == 1 ? many : most;
    }

    public int image(int n) {
        if (!isWithin(n, IMAGES - 1)) {
            return OUTSIDE;
        }
        images[n].become(rules);
        kept[n] = true;
        return 1;
    }

    public int restore(int n) {
        if (!isWithin(n, IMAGES - 1)) {
            return OUTSIDE;
        }
        if (!kept[n]) {
            return STATE;
        }
        rules.become(images[n]);
        return 1;
    }

    public int told(int what) {
        if (what >= FROM_HERE && what - FROM_HERE < rules.scenes) {
            return rules.sceneOn[what - FROM_HERE];
        }
        switch (what) {
            case 0:
                return play.count;
            case 1:
                return rules.law;
            case 2:
                return rules.k;
            case 3:
                return rules.change;
            case 4:
                return rules.scenes;
            case 5:
                return rules.sights;
            default:
                return OUTSIDE;
        }
    }

    // ---- what the calls share

    private static boolean isWithin(int v, int most) {
        return v >= 0 && v <= most;
    }

    private static boolean isPart(int part) {
        return part >= 0 && part < PARTS;
    }

    private boolean isLine(int line) {
        return line >= 0 && line < play.lineCount;
    }

    /** Reads the PLAY; a ? is refused ahead of what can not be, since who comes there is not known. */
    private int refusalOfEvents() {
        play.survey();
        if (play.faultAt != NONE) {
            return NO;
        }
        if (play.asked > 0) {
            return STATE;
        }
        play.perform(0);
        return GRANTED;
    }

    private int refusalOfLines() {
        int refused = refusalOfEvents();
        if (refused == GRANTED && play.impossibleAt != NONE) {
            refused = NO;
        }
        return refused;
    }

    // ---- strangers

    private int strangersAt(int line) {
        return rules.k - play.manyAt[line];
    }

    private int bar() {
        for (int line = 0; line < play.lineCount; line++) {
            if (strangersAt(line) < 0) {
                return line;
            }
        }
        return NONE;
    }

    private int strangersComings() {
        int comings = 0;
        int ahead = 0;
        for (int line = 0; line < play.lineCount; line++) {
            comings += Math.max(0, strangersAt(line) - ahead);
            ahead = strangersAt(line);
        }
        return comings;
    }

    private int mostStrangers() {
        int most = 0;
        for (int line = 0; line < play.lineCount; line++) {
            most = Math.max(most, strangersAt(line));
        }
        return most;
    }

    // ---- cuts

    private int linesInLaw() {
        int stay = 0;
        for (int line = 0; line < play.lineCount; line++) {
            if (rules.holds(play.manyAt[line], 0)) {
                stay++;
            }
        }
        return stay;
    }

    /** The most LINES that can stay by the law of no fewer; staying[n]: the most that end with n on. */
    private int longestRising() {
        Arrays.fill(staying, 0);
        int longest = 0;
        for (int line = 0; line < play.lineCount; line++) {
            int many = play.manyAt[line];
            // with K at least at the first that stays, each later one has K at least too
            if (many < rules.k || many > PARTS) {
                continue;
            }
            int best = 0;
            for (int fewer = 0; fewer <= many; fewer++) {
                best = Math.max(best, staying[fewer]);
            }
            staying[many] = best + 1;
            longest = Math.max(longest, best + 1);
        }
        return longest;
    }

    /** All that an IMAGE keeps: all but the PAD. */
    private static final class Rules {
        private int law;
        private int k;
        private int change;
        private int scenes;
        private int sights;
        private final int[] apart;
        private final int[] together;
        private final int[] sceneOn;
        private final int[] sightLine;
        private final int[] sightMany;

        Rules() {
            law = LAW_JUST;
            k = 3;
            apart = new int[PARTS];
            together = new int[PARTS];
            sceneOn = new int[SCENES];
            sightLine = new int[SIGHTS];
            sightMany = new int[SIGHTS];
        }

        void become(Rules other) {
            law = other.law;
            k = other.k;
            change = other.change;
            scenes = other.scenes;
            sights = other.sights;
            System.arraycopy(other.apart, 0, apart, 0, PARTS);
            System.arraycopy(other.together, 0, together, 0, PARTS);
            System.arraycopy(other.sceneOn, 0, sceneOn, 0, SCENES);
            System.arraycopy(other.sightLine, 0, sightLine, 0, SIGHTS);
            System.arraycopy(other.sightMany, 0, sightMany, 0, SIGHTS);
        }

        /** Whether THE LAW holds with so many on; ahead of LINE 0 stands K, which LINE 0 is measured by. */
        boolean holds(int many, int ahead) {
            if (law == LAW_JUST) {
                return many == k;
            }
            return law == LAW_ODD ? (many & 1) == 1 : many >= ahead;
        }

        int firstAgainstLaw(Play play) {
            int ahead = k;
            for (int line = 0; line < play.lineCount; line++) {
                int many = play.manyAt[line];
                if (!holds(many, ahead)) {
                    return line;
                }
                ahead = many;
            }
            return NONE;
        }

        int setTogether(int part, int other, int how) {
            int was = 0;
            if ((apart[part] >> other & 1) == 1) {
                was = APART;
            } else if ((together[part] >> other & 1) == 1) {
                was = TOGETHER;
            }
            setPair(apart, part, other, how == APART);
            setPair(together, part, other, how == TOGETHER);
            return was;
        }

        private static void setPair(int[] pairs, int part, int other, boolean is) {
            int ofPart = 1 << part;
            int ofOther = 1 << other;
            pairs[part] = is ? pairs[part] | ofOther : pairs[part] & ~ofOther;
            pairs[other] = is ? pairs[other] | ofPart : pairs[other] & ~ofPart;
        }

        int firstAgainstMay(Play play) {
            for (int line = 0; line < play.lineCount; line++) {
                if (breaksMay(play.onAt[line])) {
                    return line;
                }
            }
            return NONE;
        }

        private boolean breaksMay(int on) {
            for (int part = 0; part < PARTS; part++) {
                boolean isOn = (on >> part & 1) == 1;
                if (isOn && ((apart[part] & on) != 0 || (together[part] & ~on) != 0)) {
                    return true;
                }
            }
            return false;
        }

        int addScene(int set) {
            if (scenes >= SCENES) {
                return FULL;
            }
            sceneOn[scenes] = set;
            scenes++;
            return scenes;
        }

        int addSight(int line, int many) {
            if (sights >= SIGHTS) {
                return FULL;
            }
            sightLine[sights] = line;
            sightMany[sights] = many;
            sights++;
            return sights;
        }

        boolean sightsHold(Play play) {
            for (int sight = 0; sight < sights; sight++) {
                int line = sightLine[sight];
                if (line >= play.lineCount || play.manyAt[line] != sightMany[sight]) {
                    return false;
                }
            }
            return true;
        }
    }

    /** The PAD and what is read from it. */
    private static final class Play {
        private final int[] signs;
        private int count;

        // told by survey()
        private int faultAt;
        private int asked;
        private int comings;
        private int lineCount;
        private final int[] manyAt;

        // told by perform()
        private int impossibleAt;
        private int why;
        private int met;
        private final int[] onAt;

        Play() {
            signs = new int[SIGNS];
            manyAt = new int[SIGNS];
            onAt = new int[SIGNS];
        }

        int add(int sign) {
            if (count >= SIGNS) {
                return FULL;
            }
            signs[count] = sign;
            count++;
            return count;
        }

        private static boolean isComing(int sign) {
            return sign >= 'A' && sign <= 'H';
        }

        private static boolean isGoing(int sign) {
            return sign >= 'a' && sign <= 'h';
        }

        /** Reads what does not depend on who a ? is: how many are on, if all EVENTS can be, does not. */
        void survey() {
            faultAt = NONE;
            asked = 0;
            comings = 0;
            lineCount = 0;
            int many = 0;
            for (int event = 0; event < count && faultAt == NONE; event++) {
                int sign = signs[event];
                if (isComing(sign)) {
                    comings++;
                    many++;
                } else if (isGoing(sign)) {
                    many--;
                } else if (sign == '.') {
                    manyAt[lineCount] = many;
                    lineCount++;
                } else if (sign == '?' && asked < ASKED) {
                    asked++;
                    many++;
                } else {
                    faultAt = event;
                }
            }
        }

        /** Who the i-th ? is in a way: a way is a number of asked digits by eight, the first ? ahead. */
        int guessed(int way, int i) {
            return way >> (3 * (asked - 1 - i)) & 7;
        }

        /** Plays the surveyed signs up to the first EVENT that can not be. */
        void perform(int way) {
            impossibleAt = NONE;
            why = NONE;
            met = 0;
            int on = 0;
            int line = 0;
            for (int event = 0; event < count && impossibleAt == NONE; event++) {
                int sign = signs[event];
                if (sign == '.') {
                    onAt[line] = on;
                    line++;
                } else if (isGoing(sign)) {
                    int who = 1 << (sign - 'a');
                    refuseUnless((on & who) != 0, event, 2);
                    on &= ~who;
                } else {
                    int who = 1 << comer(sign, way);
                    refuseUnless((on & who) == 0, event, 1);
                    on |= who;
                }
            }
        }

        private int comer(int sign, int way) {
            if (sign != '?') {
                return sign - 'A';
            }
            met++;
            return guessed(way, met - 1);
        }

        private void refuseUnless(boolean canBe, int event, int reason) {
            if (!canBe) {
                impossibleAt = event;
                why = reason;
            }
        }

        /** The LINES of a PART, as bits. */
        long linesOf(int part) {
            long lines = 0;
            for (int line = 0; line < lineCount; line++) {
                lines |= (long) (onAt[line] >> part & 1) << line;
            }
            return lines;
        }
    }

    /** Who plays what, by the fewest players. */
    private static final class Cast {
        private int players;
        private final int[] playerOf;
        private int change;
        private final long[] linesOf;
        private final int[] clashes;

        Cast() {
            playerOf = new int[PARTS];
            linesOf = new long[PARTS];
            clashes = new int[PARTS];
        }

        void choose(Play play, int changeLines) {
            change = changeLines;
            for (int part = 0; part < PARTS; part++) {
                linesOf[part] = play.linesOf(part);
                playerOf[part] = NONE;
            }
            for (int part = 0; part < PARTS; part++) {
                clashes[part] = clashesOf(linesOf[part]);
            }
            boolean found = false;
            for (int most = 0; most <= PARTS && !found; most++) {
                players = most;
                found = isCast(this, 0, 0);
            }
        }

        /** The PARTS, as bits, that one who has these LINES can not play too. */
        private int clashesOf(long lines) {
            long near = lines;
            for (int gap = 1; gap <= change; gap++) {
                near |= lines << gap | lines >>> gap;
            }
            int parts = 0;
            for (int part = 0; part < PARTS; part++) {
                if ((near & linesOf[part]) != 0) {
                    parts |= 1 << part;
                }
            }
            return parts;
        }

        /** Casts the PARTS from one on; low numbers are tried first, so that what is found is the first by players. */
        private static boolean isCast(Cast cast, int part, int used) {
            if (part >= PARTS) {
                return true;
            }
            if (cast.linesOf[part] == 0) {
                return isCast(cast, part + 1, used);
            }
            for (int player = 0; player <= used && player < cast.players; player++) {
                if ((cast.clashes[part] & cast.partsOf(player)) == 0) {
                    cast.playerOf[part] = player;
                    if (isCast(cast, part + 1, Math.max(used, player + 1))) {
                        return true;
                    }
                    cast.playerOf[part] = NONE;
                }
            }
            return false;
        }

        private int partsOf(int player) {
            int parts = 0;
            for (int part = 0; part < PARTS; part++) {
                if (playerOf[part] == player) {
                    parts |= 1 << part;
                }
            }
            return parts;
        }

        /** How many PARTS of a player, from a LINE on, no other player can take over. */
        int notTakenOver(int player, int line) {
            if (player == NONE) {
                return 0;
            }
            int left = 0;
            for (int part = 0; part < PARTS; part++) {
                long lines = linesOf[part] >>> line << line;
                if (playerOf[part] == player && lines != 0 && !canTakeOver(lines, player)) {
                    left++;
                }
            }
            return left;
        }

        private boolean canTakeOver(long lines, int ill) {
            int inTheWay = clashesOf(lines);
            for (int player = 0; player < players; player++) {
                if (player != ill && (inTheWay & partsOf(player)) == 0) {
                    return true;
                }
            }
            return false;
        }
    }

    /** The order of SCENES by which the fewest come on and go off. */
    private static final class SceneOrder {
        /** No order lets more come and go than all PARTS ahead of, between and behind all SCENES. */
        private static final int MORE_THAN_ANY = PARTS * (SCENES + 1) + 1;

        private int fewest;
        private final int[] row;
        private int scenes;
        private final int[] sceneOn;
        /** The fewest that come and go behind a SCENE, by the SCENES played up to it, as bits, and by the SCENE. */
        private final int[] behind;

        SceneOrder() {
            row = new int[SCENES];
            sceneOn = new int[SCENES];
            behind = new int[SCENES << SCENES];
        }

        void choose(Rules rules) {
            scenes = rules.scenes;
            System.arraycopy(rules.sceneOn, 0, sceneOn, 0, SCENES);
            // more SCENES are a greater number, so those are known first
            for (int played = (1 << scenes) - 1; played > 0; played--) {
                for (int last = 0; last < scenes; last++) {
                    if ((played >> last & 1) == 1) {
                        behind[played * SCENES + last] = fewestFrom(played, sceneOn[last]);
                    }
                }
            }
            fewest = fewestFrom(0, 0);
            fillRow();
        }

        /** The fewest that come and go if this SCENE follows and the rest in its best order. */
        private int fewestBy(int next, int played, int on) {
            return Integer.bitCount(on ^ sceneOn[next]) + behind[(played | 1 << next) * SCENES + next];
        }

        private int fewestFrom(int played, int on) {
            if (played == (1 << scenes) - 1) {
                // no SCENE is left: all go
                return Integer.bitCount(on);
            }
            int least = MORE_THAN_ANY;
            for (int next = 0; next < scenes; next++) {
                if ((played >> next & 1) == 0) {
                    least = Math.min(least, fewestBy(next, played, on));
                }
            }
            return least;
        }

        private void fillRow() {
            int played = 0;
            int on = 0;
            for (int place = 0; place < scenes; place++) {
                int next = firstBest(played, on);
                row[place] = next;
                played |= 1 << next;
                on = sceneOn[next];
            }
        }

        private int firstBest(int played, int on) {
            int least = fewestFrom(played, on);
            for (int next = 0; next < scenes; next++) {
                if ((played >> next & 1) == 0 && fewestBy(next, played, on) == least) {
                    return next;
                }
            }
            return 0;
        }
    }

    /** All ways to fill the comings that are not told. */
    private static final class Guess {
        private int ways;
        private int first;
        private final int[] who;

        Guess() {
            who = new int[ASKED];
        }

        void tryAll(Play play, Rules rules) {
            ways = 0;
            first = NONE;
            Arrays.fill(who, 0);
            if (!rules.sightsHold(play)) {
                return;
            }
            int all = 1 << (3 * play.asked);
            int next = 0;
            for (int way = 0; way < all; way++) {
                if (way >= next) {
                    play.perform(way);
                    if (play.impossibleAt == NONE) {
                        keep(play, way);
                    }
                    // ways that differ only in ? behind what can not be fail there too
                    next = way + (1 << (3 * (play.asked - play.met)));
                }
            }
        }

        private void keep(Play play, int way) {
            if (ways == 0) {
                first = way;
            }
            ways++;
            for (int i = 0; i < play.asked; i++) {
                who[i] |= 1 << play.guessed(way, i);
            }
        }
    }
}
