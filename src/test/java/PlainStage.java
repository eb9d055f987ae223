import java.util.ArrayList;
import java.util.Arrays;
import java.util.Collections;
import java.util.HashMap;
import java.util.List;
import java.util.Map;
import java.util.TreeSet;

/** The document read anew, with no thought of speed: what can be tried out is tried out. */
final class PlainStage {
    private static final int UNKNOWN = -1, OUTSIDE = -2, STATE = -3, FULL = -4, NO = -5, NONE = -6;

    private static final class Kept {
        int law = 0;
        int k = 3;
        int change = 0;
        Map<String, Integer> may = new HashMap<>();
        List<Integer> scenes = new ArrayList<>();
        List<int[]> sights = new ArrayList<>();

        Kept copy() {
            Kept other = new Kept();
            other.law = law;
            other.k = k;
            other.change = change;
            other.may.putAll(may);
            other.scenes.addAll(scenes);
            other.sights.addAll(sights);
            return other;
        }
    }

    /** What a text without ? comes to. */
    private static final class Told {
        List<TreeSet<Character>> lines = new ArrayList<>();
        int bad = NONE;
        int why = NONE;
        int comings = 0;
    }

    private Kept kept = new Kept();
    private final Kept[] images = new Kept[2];
    private String pad = "";
    private boolean[][] pairs;
    private final boolean[] hasLine = new boolean[8];

    int set(int which, int v) {
        int[] was = {kept.law, kept.k, kept.change};
        int[] most = {2, 8, 9};
        if (which < 0 || which > 2 || v < 0 || v > most[which]) return OUTSIDE;
        if (which == 0) kept.law = v;
        if (which == 1) kept.k = v;
        if (which == 2) kept.change = v;
        return was[which];
    }

    int say(int sign) {
        if (sign < 33 || sign > 126) return OUTSIDE;
        if (pad.length() == 40) return FULL;
        pad += (char) sign;
        return pad.length();
    }

    int wipe() {
        int were = pad.length();
        pad = "";
        return were;
    }

    int fault() {
        for (int i = 0; i < pad.length(); i++) {
            String head = pad.substring(0, i + 1);
            if (!head.matches("[A-Ha-h.?]*") || head.replaceAll("[^?]", "").length() > 3) return i;
        }
        return NONE;
    }

    private static Told tell(String play) {
        Told told = new Told();
        TreeSet<Character> on = new TreeSet<>();
        for (int i = 0; i < play.length(); i++) {
            char sign = play.charAt(i);
            if (sign == '.') {
                told.lines.add(new TreeSet<>(on));
            } else if (Character.isUpperCase(sign)) {
                told.comings++;
                if (!on.add(sign) && told.bad == NONE) {
                    told.bad = i;
                    told.why = 1;
                }
            } else if (!on.remove(Character.toUpperCase(sign)) && told.bad == NONE) {
                told.bad = i;
                told.why = 2;
            }
        }
        return told;
    }

    private int refusal() {
        if (fault() != NONE) return NO;
        if (pad.contains("?")) return STATE;
        return tell(pad).bad != NONE ? NO : 0;
    }

    private List<Integer> counts() {
        List<Integer> counts = new ArrayList<>();
        for (TreeSet<Character> on : tell(pad).lines) counts.add(on.size());
        return counts;
    }

    private int firstBreak(List<Integer> counts) {
        for (int i = 0; i < counts.size(); i++) {
            int n = counts.get(i);
            boolean holds = kept.law == 0 ? n == kept.k
                : kept.law == 1 ? n % 2 == 1
                : i == 0 ? n >= kept.k : n >= counts.get(i - 1);
            if (!holds) return i;
        }
        return NONE;
    }

    int judge(int what) {
        if (what != 0 && what != 1 && what != 2) return OUTSIDE;
        if (fault() != NONE) return NO;
        if (pad.contains("?")) return STATE;
        Told told = tell(pad);
        if (what == 0) return told.bad;
        if (what == 1) return told.why;
        return told.bad != NONE ? NO : firstBreak(counts());
    }

    private static int bits(TreeSet<Character> on) {
        int bits = 0;
        for (char who : on) bits |= 1 << (who - 'A');
        return bits;
    }

    int on(int line) {
        if (refusal() != 0) return refusal();
        List<TreeSet<Character>> lines = tell(pad).lines;
        return line < 0 || line >= lines.size() ? OUTSIDE : bits(lines.get(line));
    }

    private List<Integer> linesOf(int part) {
        List<TreeSet<Character>> lines = tell(pad).lines;
        List<Integer> of = new ArrayList<>();
        for (int i = 0; i < lines.size(); i++) if (lines.get(i).contains((char) ('A' + part))) of.add(i);
        return of;
    }

    int lines(int part) {
        if (part < -2 || part > 7) return UNKNOWN;
        if (refusal() != 0) return refusal();
        if (part == -1) return tell(pad).lines.size();
        return part == -2 ? tell(pad).comings : linesOf(part).size();
    }

    private static String pair(int part, int other) {
        return Math.min(part, other) + "-" + Math.max(part, other);
    }

    int may(int part, int other, int how) {
        if (part < 0 || part > 7 || other < 0 || other > 7 || part == other) return UNKNOWN;
        if (how < 0 || how > 2) return OUTSIDE;
        Integer was = kept.may.put(pair(part, other), how);
        return was == null ? 0 : was;
    }

    int broken() {
        if (refusal() != 0) return refusal();
        List<TreeSet<Character>> lines = tell(pad).lines;
        for (int i = 0; i < lines.size(); i++) {
            for (int p = 0; p < 8; p++) {
                for (int q = p + 1; q < 8; q++) {
                    boolean pOn = lines.get(i).contains((char) ('A' + p));
                    boolean qOn = lines.get(i).contains((char) ('A' + q));
                    int how = kept.may.getOrDefault(pair(p, q), 0);
                    if (how == 1 && pOn && qOn || how == 2 && pOn != qOn) return i;
                }
            }
        }
        return NONE;
    }

    int strangers(int what) {
        if (refusal() != 0) return refusal();
        List<Integer> counts = counts();
        if (!(what >= 0 && what <= 2 || what >= 10 && what - 10 < counts.size())) return OUTSIDE;
        int bar = NONE;
        for (int i = counts.size() - 1; i >= 0; i--) if (counts.get(i) > kept.k) bar = i;
        if (what == 2) return bar;
        if (bar != NONE) return NONE;
        if (what >= 10) return kept.k - counts.get(what - 10);
        int comings = 0;
        int most = 0;
        // the n-th stranger is on wherever n are needed
        for (int n = 1; n <= kept.k; n++) {
            boolean wasOn = false;
            for (int count : counts) {
                boolean isOn = kept.k - count >= n;
                if (isOn && !wasOn) comings++;
                if (isOn) most = n;
                wasOn = isOn;
            }
        }
        return what == 0 ? comings : most;
    }

    /** The drawn plays of this test have twelve LINES at most where it is asked: each choice is tried. */
    int cuts() {
        if (refusal() != 0) return refusal();
        List<Integer> counts = counts();
        int fewest = counts.size();
        if (counts.size() > 12) return cutsOfMany(counts);
        for (int stay = 0; stay < 1 << counts.size(); stay++) {
            List<Integer> those = new ArrayList<>();
            for (int i = 0; i < counts.size(); i++) if ((stay >> i & 1) == 1) those.add(counts.get(i));
            if (firstBreak(those) == NONE) fewest = Math.min(fewest, counts.size() - those.size());
        }
        return fewest;
    }

    private int cutsOfMany(List<Integer> counts) {
        int[] stay = new int[counts.size()];
        int most = 0;
        for (int i = 0; i < counts.size(); i++) {
            boolean alone = kept.law == 0 ? counts.get(i) == kept.k : kept.law == 1 ? counts.get(i) % 2 == 1 : counts.get(i) >= kept.k;
            if (!alone) continue;
            stay[i] = 1;
            for (int j = 0; j < i; j++) {
                if (stay[j] > 0 && (kept.law < 2 || counts.get(j) <= counts.get(i))) stay[i] = Math.max(stay[i], stay[j] + 1);
            }
            most = Math.max(most, stay[i]);
        }
        return counts.size() - most;
    }

    private boolean canBeOne(List<Integer> lines, List<Integer> others) {
        for (int line : lines) {
            for (int other : others) {
                if (line == other || Math.abs(line - other) - 1 < kept.change) return false;
            }
        }
        return true;
    }

    private boolean isCast(int[] players) {
        for (int p = 0; p < 8; p++) {
            for (int q = p + 1; q < 8; q++) {
                if (players[p] >= 0 && players[p] == players[q] && !pairs[p][q]) return false;
            }
        }
        return true;
    }

    private int[] bestCast() {
        pairs = new boolean[8][8];
        for (int p = 0; p < 8; p++) {
            for (int q = 0; q < 8; q++) pairs[p][q] = canBeOne(linesOf(p), linesOf(q));
            hasLine[p] = !linesOf(p).isEmpty();
        }
        return best(new int[8], 0, 0, null);
    }

    /** All ways to number players as they first come, in order; the best is kept. */
    private int[] best(int[] players, int part, int used, int[] best) {
        if (part == 8) {
            boolean better = best == null || used < 1 + Arrays.stream(best).max().getAsInt();
            return better && isCast(players) ? players.clone() : best;
        }
        if (!hasLine[part]) {
            players[part] = NONE;
            return best(players, part + 1, used, best);
        }
        for (int player = 0; player <= used; player++) {
            players[part] = player;
            best = best(players, part + 1, Math.max(used, player + 1), best);
        }
        return best;
    }

    int cast(int part) {
        if (part < -1 || part > 7) return UNKNOWN;
        if (refusal() != 0) return refusal();
        int[] best = bestCast();
        return part == -1 ? Math.max(0, 1 + Arrays.stream(best).max().getAsInt()) : best[part];
    }

    int ill(int part, int line) {
        if (part < 0 || part > 7) return UNKNOWN;
        if (refusal() != 0) return refusal();
        if (line < 0 || line >= tell(pad).lines.size()) return OUTSIDE;
        int[] players = bestCast();
        int left = 0;
        for (int p = 0; p < 8; p++) {
            if (players[part] == NONE || players[p] != players[part]) continue;
            List<Integer> rest = new ArrayList<>(linesOf(p));
            rest.removeIf(l -> l < line);
            if (rest.isEmpty()) continue;
            boolean taken = false;
            for (int other = 0; other < 8; other++) {
                if (other == players[part] || Arrays.stream(players).boxed().noneMatch(List.of(other)::contains)) continue;
                boolean can = true;
                for (int q = 0; q < 8; q++) if (players[q] == other && !canBeOne(linesOf(q), rest)) can = false;
                if (can) taken = true;
            }
            if (!taken) left++;
        }
        return left;
    }

    int scene(int set) {
        if (set < 0 || set > 255) return OUTSIDE;
        if (kept.scenes.size() == 6) return FULL;
        kept.scenes.add(set);
        return kept.scenes.size();
    }

    int strike() {
        int were = kept.scenes.size();
        kept.scenes.clear();
        return were;
    }

    private int traffic(List<Integer> order) {
        int all = 0;
        int on = 0;
        for (int scene : order) {
            all += Integer.bitCount(kept.scenes.get(scene) & ~on) + Integer.bitCount(on & ~kept.scenes.get(scene));
            on = kept.scenes.get(scene);
        }
        return all + Integer.bitCount(on);
    }

    private List<Integer> bestOrder(List<Integer> order, List<Integer> best) {
        if (order.size() == kept.scenes.size()) {
            return best == null || traffic(order) < traffic(best) ? new ArrayList<>(order) : best;
        }
        for (int next = 0; next < kept.scenes.size(); next++) {
            if (order.contains(next)) continue;
            order.add(next);
            best = bestOrder(order, best);
            order.remove(order.size() - 1);
        }
        return best;
    }

    int order(int i) {
        List<Integer> best = bestOrder(new ArrayList<>(), null);
        if (i == -1) return traffic(best);
        return i < 0 || i >= best.size() ? NONE : best.get(i);
    }

    int seen(int line, int many) {
        if (line < 0 || line > 39 || many < 0 || many > 8) return OUTSIDE;
        if (kept.sights.size() == 6) return FULL;
        kept.sights.add(new int[] {line, many});
        return kept.sights.size();
    }

    int forget() {
        int were = kept.sights.size();
        kept.sights.clear();
        return were;
    }

    /** All ways, each the letters for the ?, in order. */
    private List<String> ways() {
        List<String> ways = new ArrayList<>();
        fill(pad, "", ways);
        Collections.sort(ways);
        return ways;
    }

    private void fill(String play, String letters, List<String> ways) {
        int at = play.indexOf('?');
        if (at >= 0) {
            for (char who = 'A'; who <= 'H'; who++) fill(play.substring(0, at) + who + play.substring(at + 1), letters + who, ways);
            return;
        }
        Told told = tell(play);
        boolean all = told.bad == NONE;
        for (int[] sight : kept.sights) {
            if (sight[0] >= told.lines.size() || told.lines.get(sight[0]).size() != sight[1]) all = false;
        }
        if (all) ways.add(letters);
    }

    private int asked() {
        return pad.replaceAll("[^?]", "").length();
    }

    int fits(int i) {
        if (fault() != NONE) return NO;
        List<String> ways = ways();
        if (i == -1) return ways.size();
        return i < 0 || i >= asked() || ways.isEmpty() ? NONE : ways.get(0).charAt(i) - 'A';
    }

    int could(int i) {
        if (fault() != NONE) return NO;
        if (i < 0 || i >= asked()) return NONE;
        int bits = 0;
        for (String way : ways()) bits |= 1 << (way.charAt(i) - 'A');
        return bits;
    }

    int evening(int seed, int m, int what) {
        if (seed < 0 || seed > 9999 || m < 1 || m > 99 || what < 0 || what > 2) return OUTSIDE;
        long x = seed;
        TreeSet<Long> on = new TreeSet<>();
        List<Integer> counts = new ArrayList<>();
        for (int i = 0; i < m; i++) {
            x = (75 * x + 74) % 65537;
            if (!on.remove(x % 8)) on.add(x % 8);
            counts.add(on.size());
        }
        if (what == 1) return on.size();
        if (what == 2) return Collections.max(counts);
        int held = 0;
        for (int i = 0; i < m; i++) {
            // the LINE ahead is told as the first, so that a LINE is judged by it alone
            if (i == 0 ? firstBreak(counts.subList(0, 1)) == NONE : holdsBehind(counts.get(i - 1), counts.get(i))) held++;
        }
        return held;
    }

    private boolean holdsBehind(int ahead, int many) {
        return kept.law == 2 ? many >= ahead : firstBreak(List.of(many)) == NONE;
    }

    int image(int n) {
        if (n != 0 && n != 1) return OUTSIDE;
        images[n] = kept.copy();
        return 1;
    }

    int restore(int n) {
        if (n != 0 && n != 1) return OUTSIDE;
        if (images[n] == null) return STATE;
        kept = images[n].copy();
        return 1;
    }

    int told(int what) {
        int[] told = {pad.length(), kept.law, kept.k, kept.change, kept.scenes.size(), kept.sights.size()};
        if (what >= 0 && what < told.length) return told[what];
        return what >= 10 && what - 10 < kept.scenes.size() ? kept.scenes.get(what - 10) : OUTSIDE;
    }
}
