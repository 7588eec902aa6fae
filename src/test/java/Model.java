import java.util.ArrayList;
import java.util.Arrays;
import java.util.HashSet;
import java.util.LinkedHashMap;
import java.util.List;
import java.util.Map;
import java.util.Set;
import java.util.regex.Matcher;
import java.util.regex.Pattern;

/**
 * The document told again as plainly as can be, by other ways than the class takes: classes by
 * refinement, best plans by trying all turns, faults by a pattern, needs as a list of triples.
 */
final class Model {
    static final int NONE = -1, BAD = -2, NO = -3, FULL = -4, MUCH = -5;

    /** What a state back holds. */
    static final class World {
        List<int[]> kinds = new ArrayList<>();
        List<Integer> block = new ArrayList<>();
        List<int[]> needs = new ArrayList<>();
        int width = 1;
        int renamed = 0;

        World copy() {
            World w = new World();
            w.kinds.addAll(kinds);
            w.block.addAll(block);
            for (int[] n : needs) {
                w.needs.add(n.clone());
            }
            w.width = width;
            w.renamed = renamed;
            return w;
        }

        int latency(int i) {
            return kinds.get(block.get(i))[3];
        }

        int hold(int i, int unit) {
            return kinds.get(block.get(i))[unit];
        }

        int span(int i) {
            int span = latency(i);
            for (int unit = 0; unit < 3; unit++) {
                for (int turn = 0; turn < 4; turn++) {
                    if ((hold(i, unit) >> turn & 1) != 0) {
                        span = Math.max(span, turn + 1);
                    }
                }
            }
            return span;
        }

        /** Needs that count now, as {i, j, turns}. */
        List<int[]> counting() {
            List<int[]> list = new ArrayList<>();
            for (int[] n : needs) {
                if (n[2] == 1) {
                    list.add(new int[] {n[0], n[1], latency(n[1])});
                } else if (renamed == 0) {
                    list.add(new int[] {n[0], n[1], 0});
                }
            }
            return list;
        }
    }

    World now = new World();
    List<World> older = new ArrayList<>();
    int[] refused = new int[4];
    StringBuilder text = new StringBuilder();

    int refuse(int code) {
        refused[-2 - code]++;
        return code;
    }

    int settle(World draft, int answer) {
        if (answer < 0) {
            return refuse(answer);
        }
        older.add(now);
        if (older.size() > 5) {
            older.remove(0);
        }
        now = draft;
        return answer;
    }

    // ---- changes of a world

    static int kindIn(World w, int a, int b, int c, int latency) {
        for (int v : new int[] {a, b, c}) {
            if (v < 0 || v > 15) {
                return BAD;
            }
        }
        if (latency < 1 || latency > 5) {
            return BAD;
        }
        if (w.kinds.size() == 5) {
            return FULL;
        }
        w.kinds.add(new int[] {a, b, c, latency});
        return w.kinds.size() - 1;
    }

    static int setsIn(World w, int what, int v) {
        int was;
        switch (what) {
            case 0:
                if (v < 1 || v > 3) {
                    return BAD;
                }
                was = w.width;
                w.width = v;
                return was;
            case 1:
                if (v < 0 || v > 1) {
                    return BAD;
                }
                was = w.renamed;
                w.renamed = v;
                return was;
            default:
                return BAD;
        }
    }

    static int instructionIn(World w, int kind) {
        if (kind < 0 || kind >= w.kinds.size()) {
            return BAD;
        }
        if (w.block.size() == 6) {
            return FULL;
        }
        w.block.add(kind);
        return w.block.size() - 1;
    }

    static int needsIn(World w, int i, int j, int sort) {
        int n = w.block.size();
        if (i < 0 || i >= n || j < 0 || j >= n || i == j || sort < 0 || sort > 2) {
            return BAD;
        }
        int was = 0;
        List<int[]> others = new ArrayList<>();
        for (int[] need : w.needs) {
            if (need[0] == i && need[1] == j) {
                was = need[2];
            } else {
                others.add(need);
            }
        }
        if (sort != 0) {
            others.add(new int[] {i, j, sort});
        }
        if (hasRing(others, n)) {
            return NO;
        }
        w.needs = others;
        return was;
    }

    /** Takes away ones that need nothing left; what can not be taken away is a ring. */
    static boolean hasRing(List<int[]> needs, int n) {
        Set<Integer> left = new HashSet<>();
        for (int i = 0; i < n; i++) {
            left.add(i);
        }
        boolean moved = true;
        while (moved) {
            moved = false;
            for (Integer i : new ArrayList<>(left)) {
                boolean waits = false;
                for (int[] need : needs) {
                    waits |= need[0] == i && left.contains(need[1]);
                }
                if (!waits) {
                    left.remove(i);
                    moved = true;
                }
            }
        }
        return !left.isEmpty();
    }

    static int dropsIn(World w, int i) {
        if (i < 0 || i >= w.block.size()) {
            return BAD;
        }
        w.block.remove(i);
        List<int[]> others = new ArrayList<>();
        for (int[] need : w.needs) {
            if (need[0] != i && need[1] != i) {
                others.add(new int[] {
                    need[0] > i ? need[0] - 1 : need[0], need[1] > i ? need[1] - 1 : need[1], need[2]});
            }
        }
        w.needs = others;
        return w.block.size();
    }

    // ---- the calls

    int kind(int a, int b, int c, int latency) {
        World w = now.copy();
        return settle(w, kindIn(w, a, b, c, latency));
    }

    int sets(int what, int v) {
        World w = now.copy();
        return settle(w, setsIn(w, what, v));
    }

    int of(int k, int what) {
        if (k < 0 || k >= now.kinds.size() || what < 0 || what > 4) {
            return refuse(BAD);
        }
        return ofKind(k, what);
    }

    int ofKind(int k, int what) {
        if (what < 4) {
            return now.kinds.get(k)[what];
        }
        int n = 0;
        for (int kind : now.block) {
            n += kind == k ? 1 : 0;
        }
        return n;
    }

    /** States as texts "a,b,c" in the order in which they are found; null: too many. */
    List<String> allStates() {
        Map<String, Integer> found = new LinkedHashMap<>();
        List<String> list = new ArrayList<>();
        found.put("0,0,0", 0);
        list.add("0,0,0");
        for (int n = 0; n < list.size(); n++) {
            if (list.size() > 150) {
                return null;
            }
            for (int letter = 0; letter <= now.kinds.size(); letter++) {
                String next = letter == now.kinds.size() ? pass(list.get(n)) : read(list.get(n), letter);
                if (next != null && !found.containsKey(next)) {
                    found.put(next, list.size());
                    list.add(next);
                }
            }
        }
        return list;
    }

    static int[] parts(String state) {
        String[] p = state.split(",");
        return new int[] {Integer.parseInt(p[0]), Integer.parseInt(p[1]), Integer.parseInt(p[2])};
    }

    static String pass(String state) {
        int[] p = parts(state);
        return p[0] / 2 + "," + p[1] / 2 + "," + p[2] / 2;
    }

    String read(String state, int k) {
        int[] p = parts(state);
        int[] h = now.kinds.get(k);
        for (int u = 0; u < 3; u++) {
            if ((p[u] & h[u]) != 0) {
                return null;
            }
        }
        return (p[0] + h[0]) + "," + (p[1] + h[1]) + "," + (p[2] + h[2]);
    }

    /** Class of each state, refined until nothing changes. */
    int[] classOf(List<String> list) {
        int[] cls = new int[list.size()];
        int count = 1;
        while (true) {
            Map<String, Integer> signs = new LinkedHashMap<>();
            int[] next = new int[cls.length];
            for (int s = 0; s < cls.length; s++) {
                StringBuilder sign = new StringBuilder().append(cls[s]);
                sign.append(' ').append(cls[list.indexOf(pass(list.get(s)))]);
                for (int k = 0; k < now.kinds.size(); k++) {
                    String to = read(list.get(s), k);
                    sign.append(' ').append(to == null ? -1 : cls[list.indexOf(to)]);
                }
                Integer known = signs.get(sign.toString());
                if (known == null) {
                    known = signs.size();
                    signs.put(sign.toString(), known);
                }
                next[s] = known;
            }
            cls = next;
            if (signs.size() == count) {
                return cls;
            }
            count = signs.size();
        }
    }

    int statesOr() {
        List<String> list = allStates();
        return list == null ? MUCH : list.size();
    }

    int classesOr() {
        List<String> list = allStates();
        if (list == null) {
            return MUCH;
        }
        int most = 0;
        for (int c : classOf(list)) {
            most = Math.max(most, c + 1);
        }
        return most;
    }

    int states() {
        int n = statesOr();
        return n < 0 ? refuse(n) : n;
    }

    int state(int s, int what) {
        if (what < 0 || what >= 4 + now.kinds.size() || s < 0) {
            return refuse(BAD);
        }
        List<String> list = allStates();
        if (list == null) {
            return refuse(MUCH);
        }
        if (s >= list.size()) {
            return refuse(BAD);
        }
        if (what < 3) {
            return parts(list.get(s))[what];
        }
        String to = what == 3 ? pass(list.get(s)) : read(list.get(s), what - 4);
        return to == null ? NONE : list.indexOf(to);
    }

    int classes() {
        int n = classesOr();
        return n < 0 ? refuse(n) : n;
    }

    int alike(int s, int t) {
        if (s < 0 || t < 0) {
            return refuse(BAD);
        }
        List<String> list = allStates();
        if (list == null) {
            return refuse(MUCH);
        }
        if (s >= list.size() || t >= list.size()) {
            return refuse(BAD);
        }
        int[] cls = classOf(list);
        return cls[s] == cls[t] ? 1 : 0;
    }

    int instruction(int kind) {
        World w = now.copy();
        return settle(w, instructionIn(w, kind));
    }

    int needs(int i, int j, int sort) {
        World w = now.copy();
        return settle(w, needsIn(w, i, j, sort));
    }

    int drops(int i) {
        World w = now.copy();
        return settle(w, dropsIn(w, i));
    }

    int way(int i) {
        int way = now.span(i);
        for (int[] n : now.counting()) {
            if (n[1] == i) {
                way = Math.max(way, n[2] + way(n[0]));
            }
        }
        return way;
    }

    int least(int i) {
        int least = 0;
        for (int[] n : now.counting()) {
            if (n[0] == i) {
                least = Math.max(least, n[2] + least(n[1]));
            }
        }
        return least;
    }

    int about(int i, int what) {
        if (i < 0 || i >= now.block.size() || what < 0 || what > 4) {
            return refuse(BAD);
        }
        return aboutOf(i, what);
    }

    int aboutOf(int i, int what) {
        if (what == 0) {
            return now.block.get(i);
        }
        if (what == 1) {
            return way(i);
        }
        if (what == 4) {
            return least(i);
        }
        int n = 0;
        for (int[] need : now.needs) {
            n += need[0] == i && need[2] == what - 1 ? 1 : 0;
        }
        return n;
    }

    int bound() {
        int n = now.block.size();
        int bound = (int) Math.ceil(n / (double) now.width);
        int[] held = new int[3];
        for (int i = 0; i < n; i++) {
            bound = Math.max(bound, way(i));
            for (int u = 0; u < 3; u++) {
                held[u] += Integer.bitCount(now.hold(i, u));
            }
        }
        return Math.max(bound, Math.max(held[0], Math.max(held[1], held[2])));
    }

    /** Whether the first so many turns break nothing by themselves. */
    boolean allowed(int[] turns, int n) {
        boolean[][] held = new boolean[3][64];
        int[] begun = new int[64];
        for (int i = 0; i < n; i++) {
            if (++begun[turns[i]] > now.width) {
                return false;
            }
            for (int u = 0; u < 3; u++) {
                for (int t = 0; t < 4; t++) {
                    if ((now.hold(i, u) >> t & 1) != 0) {
                        if (held[u][turns[i] + t]) {
                            return false;
                        }
                        held[u][turns[i] + t] = true;
                    }
                }
            }
        }
        for (int[] need : now.counting()) {
            if (need[0] < n && need[1] < n && turns[need[0]] - turns[need[1]] < need[2]) {
                return false;
            }
        }
        return true;
    }

    int lengthOf(int[] turns) {
        int length = 0;
        for (int i = 0; i < turns.length; i++) {
            length = Math.max(length, turns[i] + now.span(i));
        }
        return length;
    }

    boolean fill(int[] turns, int i, int length) {
        if (i == turns.length) {
            return true;
        }
        for (int t = 0; t + now.span(i) <= length; t++) {
            turns[i] = t;
            if (allowed(turns, i + 1) && fill(turns, i + 1, length)) {
                return true;
            }
        }
        return false;
    }

    int[] bestTurns() {
        int[] turns = new int[now.block.size()];
        for (int length = 0; !fill(turns, 0, length); length++) {
            if (length > 40) {
                throw new IllegalStateException("no plan");
            }
        }
        return turns;
    }

    int best(int i) {
        if (i < NONE || i >= now.block.size()) {
            return refuse(BAD);
        }
        int[] turns = bestTurns();
        return i == NONE ? lengthOf(turns) : turns[i];
    }

    int[] rankedTurns(int rule) {
        int n = now.block.size();
        List<Integer> order = new ArrayList<>();
        int[] rank = new int[n];
        for (int i = 0; i < n; i++) {
            order.add(i);
            if (rule == 0) {
                rank[i] = way(i);
            }
            if (rule == 2) {
                for (int[] need : now.counting()) {
                    rank[i] += need[1] == i ? 1 : 0;
                }
            }
        }
        order.sort((x, y) -> rank[x] != rank[y] ? rank[y] - rank[x] : x - y);
        int[] turns = new int[n];
        Arrays.fill(turns, NONE);
        boolean[][] held = new boolean[3][64];
        for (int now0 = 0; now0 < 50; now0++) {
            int begun = 0;
            for (int i : order) {
                if (turns[i] == NONE && begun < now.width && ready(i, now0, turns) && free(i, now0, held)) {
                    turns[i] = now0;
                    begun++;
                    for (int u = 0; u < 3; u++) {
                        for (int t = 0; t < 4; t++) {
                            held[u][now0 + t] |= (now.hold(i, u) >> t & 1) != 0;
                        }
                    }
                }
            }
        }
        return turns;
    }

    boolean ready(int i, int at, int[] turns) {
        for (int[] need : now.counting()) {
            if (need[0] == i && (turns[need[1]] == NONE || at - turns[need[1]] < need[2])) {
                return false;
            }
        }
        return true;
    }

    boolean free(int i, int at, boolean[][] held) {
        for (int u = 0; u < 3; u++) {
            for (int t = 0; t < 4; t++) {
                if ((now.hold(i, u) >> t & 1) != 0 && held[u][at + t]) {
                    return false;
                }
            }
        }
        return true;
    }

    int ranked(int rule, int i) {
        if (rule < 0 || rule > 2 || i < NONE || i >= now.block.size()) {
            return refuse(BAD);
        }
        int[] turns = rankedTurns(rule);
        return i == NONE ? lengthOf(turns) : turns[i];
    }

    int plan(int number) {
        int n = now.block.size();
        String figures = String.valueOf(number);
        if (number < 0 || (n == 0 ? number != 0 : figures.length() > n)) {
            return refuse(BAD);
        }
        int[] turns = new int[n];
        while (figures.length() < n) {
            figures = "0" + figures;
        }
        for (int i = 0; i < n; i++) {
            turns[i] = figures.charAt(i) - '0';
        }
        return allowed(turns, n) ? lengthOf(turns) : NONE;
    }

    int type(int c) {
        if (c < 0 || c > 127) {
            return refuse(BAD);
        }
        if (text.length() == 120) {
            return refuse(FULL);
        }
        text.append((char) c);
        return text.length();
    }

    int clear() {
        int had = text.length();
        text.setLength(0);
        return had;
    }

    static final String N = "[0-9]{1,2}";
    static final Pattern TEXT = Pattern.compile(
        " *(?:(?:k *N +N +N +N|[na] *N +N|[iwrx] *N) *; *)+".replace("N", N), Pattern.DOTALL);

    /** The first byte behind which no text could go on to be one; NONE: it is one. */
    static int fault(String s) {
        for (int n = 1; n <= s.length(); n++) {
            Matcher m = TEXT.matcher(s.substring(0, n));
            if (!m.matches() && !m.hitEnd()) {
                return n - 1;
            }
        }
        return TEXT.matcher(s).matches() ? NONE : s.length();
    }

    int reads() {
        String s = text.toString();
        int fault = fault(s);
        if (fault != NONE) {
            return -10 - fault;
        }
        World w = now.copy();
        String[] orders = s.split(";");
        int n = 0;
        for (String order : orders) {
            if (order.trim().isEmpty()) {
                continue;
            }
            String o = order.trim();
            String[] p = o.substring(1).trim().split(" +");
            int[] v = new int[4];
            for (int k = 0; k < p.length; k++) {
                v[k] = Integer.parseInt(p[k]);
            }
            if (perform(w, o.charAt(0), v) < 0) {
                return -1000 - n;
            }
            n++;
        }
        return settle(w, n);
    }

    static int perform(World w, char letter, int[] v) {
        switch (letter) {
            case 'k':
                return kindIn(w, v[0], v[1], v[2], v[3]);
            case 'i':
                return instructionIn(w, v[0]);
            case 'n':
                return needsIn(w, v[0], v[1], 1);
            case 'a':
                return needsIn(w, v[0], v[1], 2);
            case 'w':
                return setsIn(w, 0, v[0]);
            case 'r':
                return setsIn(w, 1, v[0]);
            case 'x':
                return dropsIn(w, v[0]);
            default:
                throw new IllegalStateException("letter " + letter);
        }
    }

    int back() {
        if (older.isEmpty()) {
            return refuse(NO);
        }
        now = older.remove(older.size() - 1);
        return older.size();
    }

    int told(int what) {
        if (what < 0 || what > 9) {
            return refuse(BAD);
        }
        return toldOf(what);
    }

    int toldOf(int what) {
        int[] all = {refused[0], refused[1], refused[2], refused[3], text.length(), now.kinds.size(),
            now.block.size(), now.width, now.renamed, older.size()};
        return all[what];
    }

    long digest() {
        List<Integer> all = new ArrayList<>();
        for (int what = 0; what < 10; what++) {
            all.add(toldOf(what));
        }
        for (int k = 0; k < now.kinds.size(); k++) {
            for (int what = 0; what < 5; what++) {
                all.add(ofKind(k, what));
            }
        }
        all.add(statesOr());
        all.add(classesOr());
        for (int i = 0; i < now.block.size(); i++) {
            for (int what = 0; what < 5; what++) {
                all.add(aboutOf(i, what));
            }
        }
        all.add(bound());
        all.add(lengthOf(bestTurns()));
        for (int rule = 0; rule < 3; rule++) {
            all.add(lengthOf(rankedTurns(rule)));
        }
        long h = 2459;
        for (int v : all) {
            h = 31 * h + v;
        }
        return h;
    }
}
