import java.math.BigInteger;
import java.util.ArrayDeque;
import java.util.ArrayList;
import java.util.Deque;
import java.util.List;
import java.util.Set;
import java.util.TreeSet;
import java.util.regex.Matcher;
import java.util.regex.Pattern;

/** The document taken at its word, as slowly as it likes; it shares no thought with the class on purpose. */
final class Model {
    static final int BAD = -1, STATE = -2, FULL = -3, NONE = -9;

    private record State(boolean[][] edges, int[] rank) { }

    private final StringBuilder text = new StringBuilder();
    private boolean[][] edges = new boolean[4][4];
    private int[] rank = {0, 1, 2, 3};
    private final Deque<State> past = new ArrayDeque<>();
    private final State[] images = new State[2];
    private final List<int[]> seen = new ArrayList<>();

    // ---- the graph

    int type(int letter) {
        if (letter < 0 || letter > 255) return BAD;
        if (text.length() == 120) return FULL;
        text.append((char) letter);
        return text.length();
    }

    int clear() {
        int had = text.length();
        text.setLength(0);
        return had;
    }

    int graph() {
        List<String> tokens = new ArrayList<>();
        List<Integer> places = new ArrayList<>();
        Matcher m = Pattern.compile("[0-9]+|[^ ]", Pattern.DOTALL).matcher(text);
        while (m.find()) {
            tokens.add(m.group());
            places.add(m.start());
        }
        tokens.add("");
        places.add(text.length());
        int nodes = 4;
        int items = 0;
        List<List<Integer>> told = new ArrayList<>();
        List<Integer> ranked = new ArrayList<>();
        int i = 0;
        while (i < tokens.size() - 1) {
            String head = tokens.get(i);
            if (!head.matches("[ner]") || head.equals("n") && items > 0) return -10 - places.get(i);
            i++;
            List<Integer> numbers = new ArrayList<>();
            int wanted = head.equals("e") ? 2 : 1;
            while (numbers.size() < wanted) {
                String token = tokens.get(i);
                if (!token.matches("0|[1-9][0-9]?")) return -10 - places.get(i);
                int number = Integer.parseInt(token);
                boolean inRange = head.equals("n") ? number >= 1 && number <= 12 : number < nodes;
                List<Integer> with = new ArrayList<>(numbers);
                with.add(number);
                boolean again = head.equals("e") && (numbers.contains(number) || told.contains(with))
                        || head.equals("r") && ranked.contains(number);
                if (!inRange || again) return -10 - places.get(i);
                numbers = with;
                i++;
            }
            if (!tokens.get(i).equals(";")) return -10 - places.get(i);
            i++;
            items++;
            if (head.equals("n")) nodes = numbers.get(0);
            if (head.equals("e")) told.add(numbers);
            if (head.equals("r")) ranked.add(numbers.get(0));
        }
        for (int u = 0; u < nodes; u++) if (!ranked.contains(u)) ranked.add(u);
        edges = new boolean[nodes][nodes];
        for (List<Integer> e : told) edges[e.get(0)][e.get(1)] = true;
        rank = new int[nodes];
        for (int u = 0; u < nodes; u++) rank[u] = ranked.indexOf(u);
        text.setLength(0);
        past.clear();
        images[0] = null;
        images[1] = null;
        seen.clear();
        return items;
    }

    int node(int u, int what) {
        if (bad(u) || what < 0 || what > 6) return BAD;
        Set<Integer> ring = ringOf(u);
        Set<Integer> bits = new TreeSet<>();
        switch (what) {
            case 0: return first(ring);
            case 1: return bits(ring);
            case 2: return rank[u];
            case 3: return bits(in(ring));
            case 4: return bits(out(ring));
            case 5:
                for (int v = 0; v < edges.length; v++) if (leads(edges, u, v)) bits.add(v);
                return bits(bits);
            default:
                for (int v = 0; v < edges.length; v++) if (leads(edges, v, u)) bits.add(v);
                return bits(bits);
        }
    }

    int edge(int u, int v) {
        if (bad(u) || bad(v) || u == v) return BAD;
        return edges[u][v] ? 1 : 0;
    }

    int now(int what) {
        switch (what) {
            case 0: return edgeList().size();
            case 1: return rings().size();
            case 2: return labels();
            case 3: return pairs(edges);
            case 4: {
                int spare = 0;
                for (int[] e : edgeList()) spare += isSpare(e[0], e[1]) ? 1 : 0;
                return spare;
            }
            case 5: return lone();
            case 6: {
                int most = 0;
                for (Set<Integer> ring : rings()) most = Math.max(most, chainFrom(ring));
                return most;
            }
            case 7: return past.size();
            default: return BAD;
        }
    }

    // ---- what is done

    int adds(int u, int v) {
        if (bad(u) || bad(v) || u == v) return BAD;
        if (edges[u][v]) return STATE;
        remember();
        edges[u][v] = true;
        return labels();
    }

    int cuts(int u, int v) {
        if (bad(u) || bad(v) || u == v) return BAD;
        if (!edges[u][v]) return STATE;
        remember();
        edges[u][v] = false;
        return labels();
    }

    int ranks() {
        remember();
        List<Integer> order = new ArrayList<>();
        for (int u = 0; u < edges.length; u++) order.add(u);
        order.sort((a, b) -> weight(a) != weight(b) ? weight(b) - weight(a) : a - b);
        for (int u = 0; u < edges.length; u++) rank[u] = order.indexOf(u);
        return labels();
    }

    int undo() {
        if (past.isEmpty()) return STATE;
        restore(past.removeLast());
        return past.size();
    }

    // ---- who comes where

    int comes(int u, int v) {
        if (bad(u) || bad(v)) return BAD;
        return leads(edges, u, v) ? 1 : 0;
    }

    int hub(int u, int v) {
        if (bad(u) || bad(v)) return BAD;
        Set<Integer> names = new TreeSet<>(out(ringOf(u)));
        names.retainAll(in(ringOf(v)));
        int found = NONE;
        for (int name : names) {
            if (found == NONE || rankOf(ringOf(name)) < rankOf(ringOf(found))) found = name;
        }
        return found;
    }

    int way(int u, int v, int k) {
        if (bad(u) || bad(v) || k < -1) return BAD;
        if (!leads(edges, u, v)) return NONE;
        List<Integer> walk = null;
        for (int length = 0; walk == null; length++) walk = firstWalk(u, v, length);
        if (k == -1) return walk.size() - 1;
        return k < walk.size() ? walk.get(k) : NONE;
    }

    int on(int u, int v, int what) {
        if (bad(u) || bad(v) || what < 0 || what > 1) return BAD;
        if (!leads(edges, u, v)) return 0;
        Set<Integer> found = new TreeSet<>();
        for (int w = 0; w < edges.length; w++) {
            if (what == 0 ? leads(edges, u, w) && leads(edges, w, v) : everyWalkMeets(u, v, w)) found.add(w);
        }
        return bits(found);
    }

    // ---- edges

    int loss(int u, int v, int what) {
        if (bad(u) || bad(v) || u == v || what < 0 || what > 1) return BAD;
        if (!edges[u][v]) return STATE;
        if (what == 0) return isSpare(u, v) ? 1 : 0;
        return pairs(edges) - pairs(with(u, v, false));
    }

    int gain(int u, int v) {
        if (bad(u) || bad(v) || u == v) return BAD;
        if (edges[u][v]) return STATE;
        return pairs(with(u, v, true)) - pairs(edges);
    }

    int best(int what) {
        if (what < 0 || what > 1) return BAD;
        int found = NONE;
        int most = NONE;
        for (int[] e : absentList()) {
            int gained = gain(e[0], e[1]);
            if (gained > most) {
                most = gained;
                found = 16 * e[0] + e[1];
            }
        }
        return what == 0 ? found : most;
    }

    int odds(int x, int u, int v, int what) {
        if (x < 0 || x > 10 || bad(u) || bad(v) || what < 0 || what > 1) return BAD;
        List<int[]> all = edgeList();
        if (all.size() > 9) return STATE;
        BigInteger upper = BigInteger.ZERO;
        for (int failing = 0; failing < 1 << all.size(); failing++) {
            boolean[][] left = new boolean[edges.length][edges.length];
            BigInteger part = BigInteger.ONE;
            for (int i = 0; i < all.size(); i++) {
                boolean fails = (failing >> i & 1) == 1;
                part = part.multiply(BigInteger.valueOf(fails ? x : 10 - x));
                if (!fails) left[all.get(i)[0]][all.get(i)[1]] = true;
            }
            if (leads(left, u, v)) upper = upper.add(part);
        }
        BigInteger lower = BigInteger.TEN.pow(all.size());
        BigInteger both = upper.gcd(lower);
        return (what == 0 ? upper : lower).divide(both).intValueExact();
    }

    // ---- which edge it was

    int sees(int u, int v, int came) {
        if (bad(u) || bad(v) || came < 0 || came > 1) return BAD;
        if (seen.size() == 6) return FULL;
        seen.add(new int[] {u, v, came});
        return seen.size();
    }

    int forget() {
        int had = seen.size();
        seen.clear();
        return had;
    }

    int unseen(int what) {
        if (what < 0 || what > 1) return BAD;
        List<int[]> fitting = fitting();
        if (what == 0) return fitting.size();
        return fitting.isEmpty() ? NONE : 16 * fitting.get(0)[0] + fitting.get(0)[1];
    }

    int next() {
        List<int[]> fitting = fitting();
        if (fitting.size() <= 1) return NONE;
        int[][] parts = new int[edges.length][edges.length];
        for (int[] e : fitting) {
            boolean[][] then = with(e[0], e[1], true);
            for (int u = 0; u < edges.length; u++) {
                Set<Integer> met = new TreeSet<>();
                visit(then, u, met);
                for (int v : met) parts[u][v]++;
            }
        }
        int found = NONE;
        int least = Integer.MAX_VALUE;
        for (int u = 0; u < edges.length; u++) {
            for (int v = 0; v < edges.length; v++) {
                int greater = Math.max(parts[u][v], fitting.size() - parts[u][v]);
                if (u != v && greater < least) {
                    least = greater;
                    found = 16 * u + v;
                }
            }
        }
        return found;
    }

    // ---- images

    int keep(int image) {
        if (image < 0 || image > 1) return BAD;
        images[image] = copy();
        return edgeList().size();
    }

    int back(int image) {
        if (image < 0 || image > 1) return BAD;
        if (images[image] == null) return STATE;
        restore(images[image]);
        past.clear();
        return edgeList().size();
    }

    int count(int what) {
        switch (what) {
            case 0: return edges.length;
            case 1: return seen.size();
            case 2: return text.length();
            default: return BAD;
        }
    }

    // ---- the words in capitals

    private boolean bad(int u) {
        return u < 0 || u >= edges.length;
    }

    private static void visit(boolean[][] e, int u, Set<Integer> met) {
        if (!met.add(u)) return;
        for (int v = 0; v < e.length; v++) if (e[u][v]) visit(e, v, met);
    }

    private static boolean leads(boolean[][] e, int u, int v) {
        Set<Integer> met = new TreeSet<>();
        visit(e, u, met);
        return met.contains(v);
    }

    private Set<Integer> ringOf(int u) {
        Set<Integer> ring = new TreeSet<>();
        for (int v = 0; v < edges.length; v++) {
            if (leads(edges, u, v) && leads(edges, v, u)) ring.add(v);
        }
        return ring;
    }

    private List<Set<Integer>> rings() {
        List<Set<Integer>> all = new ArrayList<>();
        for (int u = 0; u < edges.length; u++) if (!all.contains(ringOf(u))) all.add(ringOf(u));
        return all;
    }

    private static int first(Set<Integer> ring) {
        return ring.iterator().next();
    }

    private boolean ringLeads(Set<Integer> a, Set<Integer> b) {
        return leads(edges, first(a), first(b));
    }

    private int rankOf(Set<Integer> ring) {
        int least = Integer.MAX_VALUE;
        for (int u : ring) least = Math.min(least, rank[u]);
        return least;
    }

    private boolean lowerBetween(Set<Integer> a, Set<Integer> b, Set<Integer> h) {
        for (Set<Integer> g : rings()) {
            if (!g.equals(h) && rankOf(g) < rankOf(h) && ringLeads(a, g) && ringLeads(g, b)) return true;
        }
        return false;
    }

    private Set<Integer> in(Set<Integer> c) {
        Set<Integer> names = new TreeSet<>();
        for (Set<Integer> h : rings()) if (ringLeads(h, c) && !lowerBetween(h, c, h)) names.add(first(h));
        return names;
    }

    private Set<Integer> out(Set<Integer> c) {
        Set<Integer> names = new TreeSet<>();
        for (Set<Integer> h : rings()) if (ringLeads(c, h) && !lowerBetween(c, h, h)) names.add(first(h));
        return names;
    }

    private int labels() {
        int all = 0;
        for (Set<Integer> c : rings()) all += in(c).size() + out(c).size();
        return all;
    }

    private int lone() {
        if (rings().size() == 1) return 0;
        int noneBefore = 0;
        int noneBehind = 0;
        for (Set<Integer> c : rings()) {
            boolean before = false;
            boolean behind = false;
            for (Set<Integer> d : rings()) {
                before |= !d.equals(c) && ringLeads(d, c);
                behind |= !d.equals(c) && ringLeads(c, d);
            }
            noneBefore += before ? 0 : 1;
            noneBehind += behind ? 0 : 1;
        }
        return Math.max(noneBefore, noneBehind);
    }

    private int chainFrom(Set<Integer> c) {
        int most = 0;
        // Going on to the next step only, not to all that lie ahead, keeps this from taking for ever.
        for (Set<Integer> d : rings()) {
            if (!d.equals(c) && stepLeads(c, d)) most = Math.max(most, chainFrom(d));
        }
        return 1 + most;
    }

    private boolean stepLeads(Set<Integer> c, Set<Integer> d) {
        for (int u : c) for (int v : d) if (edges[u][v]) return true;
        return false;
    }

    private int weight(int u) {
        int outward = 1;
        int inward = 1;
        for (int v = 0; v < edges.length; v++) {
            outward += edges[u][v] ? 1 : 0;
            inward += edges[v][u] ? 1 : 0;
        }
        return outward * inward;
    }

    private List<Integer> firstWalk(int u, int v, int length) {
        if (length == 0) return u == v ? List.of(u) : null;
        for (int w = 0; w < edges.length; w++) {
            if (!edges[u][w]) continue;
            List<Integer> rest = firstWalk(w, v, length - 1);
            if (rest != null) {
                List<Integer> walk = new ArrayList<>(List.of(u));
                walk.addAll(rest);
                return walk;
            }
        }
        return null;
    }

    private boolean everyWalkMeets(int u, int v, int w) {
        if (u == w || v == w) return true;
        boolean[][] left = copyOf(edges);
        for (int z = 0; z < edges.length; z++) {
            left[w][z] = false;
            left[z][w] = false;
        }
        return !leads(left, u, v);
    }

    private boolean isSpare(int u, int v) {
        boolean[][] left = with(u, v, false);
        for (int a = 0; a < edges.length; a++) {
            for (int b = 0; b < edges.length; b++) {
                if (leads(edges, a, b) != leads(left, a, b)) return false;
            }
        }
        return true;
    }

    private static int pairs(boolean[][] e) {
        int all = 0;
        for (int u = 0; u < e.length; u++) {
            for (int v = 0; v < e.length; v++) all += u != v && leads(e, u, v) ? 1 : 0;
        }
        return all;
    }

    private List<int[]> fitting() {
        List<int[]> all = new ArrayList<>();
        for (int[] e : absentList()) {
            boolean[][] then = with(e[0], e[1], true);
            boolean fits = true;
            for (int[] s : seen) fits &= leads(then, s[0], s[1]) == (s[2] == 1);
            if (fits) all.add(e);
        }
        return all;
    }

    private List<int[]> edgeList() {
        return list(true);
    }

    private List<int[]> absentList() {
        return list(false);
    }

    private List<int[]> list(boolean there) {
        List<int[]> all = new ArrayList<>();
        for (int u = 0; u < edges.length; u++) {
            for (int v = 0; v < edges.length; v++) {
                if (u != v && edges[u][v] == there) all.add(new int[] {u, v});
            }
        }
        return all;
    }

    private boolean[][] with(int u, int v, boolean there) {
        boolean[][] then = copyOf(edges);
        then[u][v] = there;
        return then;
    }

    private static boolean[][] copyOf(boolean[][] e) {
        boolean[][] then = new boolean[e.length][];
        for (int u = 0; u < e.length; u++) then[u] = e[u].clone();
        return then;
    }

    private State copy() {
        return new State(copyOf(edges), rank.clone());
    }

    private void restore(State s) {
        edges = copyOf(s.edges());
        rank = s.rank().clone();
    }

    private void remember() {
        past.addLast(copy());
        if (past.size() > 10) past.removeFirst();
    }

    private static int bits(Set<Integer> set) {
        int all = 0;
        for (int u : set) all |= 1 << u;
        return all;
    }
}
