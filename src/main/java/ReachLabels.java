/** Who can come where, told by labels of hubs; ../shared/DOC.md says what each call answers. */
public final class ReachLabels {
    public static final int BAD = -1, STATE = -2, FULL = -3, NONE = -9;

    private static final int MOST_NODES = 12;
    private static final int NODES_AT_FIRST = 4;
    private static final int MOST_LETTERS = 120;
    private static final int LAST_LETTER = 255;
    private static final int MOST_UNDONE = 10;
    private static final int MOST_SEEN = 6;
    private static final int IMAGES = 2;
    private static final int MOST_UNSURE = 9;
    private static final int TENTHS = 10;
    private static final int PLACE = 16;
    private static final int BEFORE_FAULT = -10;

    private final Net net = new Net();
    private final Net draft = new Net();
    private final Script script = new Script();
    private final Reach reach = new Reach();
    private final Ranker ranker = new Ranker();
    private final Walks walks = new Walks();
    private final Changes changes = new Changes();
    private final Chances chances = new Chances();
    private final Sights sights = new Sights();
    private final Past past = new Past();
    private final Album album = new Album();

    public ReachLabels() {
        reach.derive(net);
    }

    // ---- the graph

    public int type(int letter) {
        if (letter < 0 || letter > LAST_LETTER) {
            return BAD;
        }
        return script.append(letter) ? script.length : FULL;
    }

    public int clear() {
        int had = script.length;
        script.length = 0;
        return had;
    }

    public int graph() {
        int items = script.readInto(draft);
        if (items < 0) {
            return items;
        }
        net.become(draft);
        reach.derive(net);
        script.length = 0;
        sights.size = 0;
        past.size = 0;
        album.empty();
        return items;
    }

    public int node(int u, int what) {
        if (!isNode(u)) {
            return BAD;
        }
        switch (what) {
            case 0: return reach.name[u];
            case 1: return reach.ringOf(u);
            case 2: return net.rank[u];
            case 3: return reach.in[u];
            case 4: return reach.out[u];
            case 5: return reach.ahead[u];
            case 6: return reach.behind[u];
            default: return BAD;
        }
    }

    public int edge(int u, int v) {
        if (!areTwoNodes(u, v)) {
            return BAD;
        }
        return net.has(u, v) ? 1 : 0;
    }

    public int now(int what) {
        switch (what) {
            case 0: return net.edgeCount();
            case 1: return reach.ringCount();
            case 2: return reach.labelCount();
            case 3: return reach.pairCount();
            case 4: return changes.spareCount(net);
            case 5: return reach.lone();
            case 6: return reach.chain();
            case 7: return past.size;
            default: return BAD;
        }
    }

    // ---- what is done

    public int adds(int u, int v) {
        if (!areTwoNodes(u, v)) {
            return BAD;
        }
        if (net.has(u, v)) {
            return STATE;
        }
        past.remember(net);
        net.link(u, v);
        return labelsThen();
    }

    public int cuts(int u, int v) {
        if (!areTwoNodes(u, v)) {
            return BAD;
        }
        if (!net.has(u, v)) {
            return STATE;
        }
        past.remember(net);
        net.unlink(u, v);
        return labelsThen();
    }

    public int ranks() {
        past.remember(net);
        ranker.rank(net);
        return labelsThen();
    }

    public int undo() {
        if (!past.restore(net)) {
            return STATE;
        }
        reach.derive(net);
        return past.size;
    }

    // ---- who comes where

    public int comes(int u, int v) {
        if (!areNodes(u, v)) {
            return BAD;
        }
        return (reach.out[u] & reach.in[v]) != 0 ? 1 : 0;
    }

    public int hub(int u, int v) {
        if (!areNodes(u, v)) {
            return BAD;
        }
        return reach.lowestRanked(reach.out[u] & reach.in[v]);
    }

    public int way(int u, int v, int k) {
        if (!areNodes(u, v) || k < -1) {
            return BAD;
        }
        int edges = walks.shortest(net, u, v);
        if (edges < 0 || k > edges) {
            return NONE;
        }
        return k == -1 ? edges : walks.nodeOfShortest(net, u, edges, k);
    }

    public int on(int u, int v, int what) {
        if (!areNodes(u, v) || !isChoice(what)) {
            return BAD;
        }
        int some = reach.ahead[u] & reach.behind[v];
        return what == 0 ? some : walks.onEvery(net, u, v, some);
    }

    // ---- edges

    public int loss(int u, int v, int what) {
        if (!areTwoNodes(u, v) || !isChoice(what)) {
            return BAD;
        }
        if (!net.has(u, v)) {
            return STATE;
        }
        if (what == 0) {
            return changes.isSpare(net, u, v) ? 1 : 0;
        }
        return reach.pairCount() - changes.pairsWithout(net, u, v);
    }

    public int gain(int u, int v) {
        if (!areTwoNodes(u, v)) {
            return BAD;
        }
        if (net.has(u, v)) {
            return STATE;
        }
        return changes.gainOf(reach, u, v);
    }

    public int best(int what) {
        if (!isChoice(what)) {
            return BAD;
        }
        int which = changes.bestToAdd(net, reach);
        if (which == NONE || what == 0) {
            return which;
        }
        return changes.gainOf(reach, which / PLACE, which % PLACE);
    }

    public int odds(int x, int u, int v, int what) {
        if (x < 0 || x > TENTHS || !areNodes(u, v) || !isChoice(what)) {
            return BAD;
        }
        if (net.edgeCount() > MOST_UNSURE) {
            return STATE;
        }
        chances.weigh(net, reach, x, u, v);
        return (int) (what == 0 ? chances.upper : chances.lower);
    }

    // ---- which edge it was

    public int sees(int u, int v, int came) {
        if (!areNodes(u, v) || !isChoice(came)) {
            return BAD;
        }
        return sights.append(u, v, came) ? sights.size : FULL;
    }

    public int forget() {
        int had = sights.size;
        sights.size = 0;
        return had;
    }

    public int unseen(int what) {
        if (!isChoice(what)) {
            return BAD;
        }
        sights.sift(net, reach);
        return what == 0 ? sights.fitting() : sights.firstFitting();
    }

    public int next() {
        sights.sift(net, reach);
        return sights.bestQuestion(reach);
    }

    // ---- images

    public int keep(int image) {
        if (image < 0 || image >= IMAGES) {
            return BAD;
        }
        album.take(image, net);
        return net.edgeCount();
    }

    public int back(int image) {
        if (image < 0 || image >= IMAGES) {
            return BAD;
        }
        if (!album.show(image, net)) {
            return STATE;
        }
        past.size = 0;
        reach.derive(net);
        return net.edgeCount();
    }

    public int count(int what) {
        switch (what) {
            case 0: return net.nodes;
            case 1: return sights.size;
            case 2: return script.length;
            default: return BAD;
        }
    }

    private boolean isNode(int u) {
        return u >= 0 && u < net.nodes;
    }

    private boolean areNodes(int u, int v) {
        return isNode(u) && isNode(v);
    }

    private boolean areTwoNodes(int u, int v) {
        return areNodes(u, v) && u != v;
    }

    private int labelsThen() {
        reach.derive(net);
        return reach.labelCount();
    }

    private static boolean isChoice(int what) {
        return what == 0 || what == 1;
    }

    private static int bit(int u) {
        return 1 << u;
    }

    private static boolean holds(int bits, int u) {
        return (bits >> u & 1) != 0;
    }

    /** Of a set that is not empty; of an empty one a NODE too, so that an index by it is always sound. */
    private static int lowest(int bits) {
        for (int u = 0; u < MOST_NODES; u++) {
            if (holds(bits, u)) {
                return u;
            }
        }
        return 0;
    }

    private static int edgeNumber(int u, int v) {
        return PLACE * u + v;
    }

    /** Makes rows of EDGES to rows of all that each NODE comes to, itself too. */
    private static void close(int[] rows, int nodes) {
        for (int u = 0; u < nodes; u++) {
            rows[u] |= bit(u);
        }
        for (int via = 0; via < nodes; via++) {
            for (int u = 0; u < nodes; u++) {
                if (holds(rows[u], via)) {
                    rows[u] |= rows[via];
                }
            }
        }
    }

    /** PAIRS of closed rows: a NODE and itself are none. */
    private static int pairsOf(int[] rows, int nodes) {
        int pairs = 0;
        for (int u = 0; u < nodes; u++) {
            pairs += Integer.bitCount(rows[u]) - 1;
        }
        return pairs;
    }

    /** NODES, EDGES and RANKS as they are at one time. */
    private static final class Net {
        private static final int UNRANKED = -1;

        int nodes;
        final int[] to = new int[MOST_NODES];
        final int[] rank = new int[MOST_NODES];

        Net() {
            startAnew();
            rankRest(0);
        }

        void startAnew() {
            nodes = NODES_AT_FIRST;
            for (int u = 0; u < MOST_NODES; u++) {
                to[u] = 0;
                rank[u] = UNRANKED;
            }
        }

        void become(Net other) {
            nodes = other.nodes;
            System.arraycopy(other.to, 0, to, 0, MOST_NODES);
            System.arraycopy(other.rank, 0, rank, 0, MOST_NODES);
        }

        int everyNode() {
            return bit(nodes) - 1;
        }

        boolean has(int u, int v) {
            return holds(to[u], v);
        }

        void link(int u, int v) {
            to[u] |= bit(v);
        }

        void unlink(int u, int v) {
            to[u] &= ~bit(v);
        }

        int edgeCount() {
            int edges = 0;
            for (int u = 0; u < nodes; u++) {
                edges += Integer.bitCount(to[u]);
            }
            return edges;
        }

        /** EDGES that are not there, from a NODE to another one. */
        int missingFrom(int u) {
            return everyNode() & ~to[u] & ~bit(u);
        }

        boolean isRanked(int u) {
            return rank[u] != UNRANKED;
        }

        void rankRest(int first) {
            int rankNow = first;
            for (int u = 0; u < nodes; u++) {
                if (!isRanked(u)) {
                    rank[u] = rankNow;
                    rankNow++;
                }
            }
        }

        int edgesInto(int v) {
            int edges = 0;
            for (int u = 0; u < nodes; u++) {
                if (has(u, v)) {
                    edges++;
                }
            }
            return edges;
        }

        /** All that is come to from a set by EDGES, never by a NODE to be avoided; the set is part of it. */
        int spread(int from, int avoid) {
            int reached = from & ~avoid;
            for (int round = 0; round < nodes; round++) {
                int wider = reached;
                for (int u = 0; u < nodes; u++) {
                    if (holds(reached, u)) {
                        wider |= to[u];
                    }
                }
                wider &= ~avoid;
                if (wider == reached) {
                    break;
                }
                reached = wider;
            }
            return reached;
        }
    }

    /** THE TEXT, and how it is read. */
    private static final class Script {
        private static final int BLANK = ' ';
        private static final int NUMBER = '0';
        private static final int WRONG = -1;
        private static final int END = -2;
        private static final int GREATEST_NUMBER = 99;

        int length = 0;
        private final int[] letters = new int[MOST_LETTERS];
        private int at = 0;
        private int tokenStart = 0;
        private int token = END;
        private int value = 0;
        private int ranked = 0;

        boolean append(int letter) {
            if (length >= MOST_LETTERS) {
                return false;
            }
            letters[length] = letter;
            length++;
            return true;
        }

        /** How many ITEMS, or -10 less FAULT; a net of a faulty text is of no use. */
        int readInto(Net net) {
            net.startAnew();
            ranked = 0;
            at = 0;
            int items = 0;
            readToken();
            while (token != END && items < MOST_LETTERS) {
                if (!readItem(net, items == 0)) {
                    return BEFORE_FAULT - tokenStart;
                }
                items++;
                readToken();
            }
            net.rankRest(ranked);
            return items;
        }

        private boolean readItem(Net net, boolean isFirst) {
            boolean fits;
            switch (token) {
                case 'n': fits = isFirst && readNodes(net); break;
                case 'e': fits = readEdge(net); break;
                case 'r': fits = readRanked(net); break;
                default: fits = false;
            }
            if (!fits) {
                return false;
            }
            readToken();
            return token == ';';
        }

        private boolean readNodes(Net net) {
            if (!readNumber(1, MOST_NODES)) {
                return false;
            }
            net.nodes = value;
            return true;
        }

        private boolean readEdge(Net net) {
            if (!readNumber(0, net.nodes - 1)) {
                return false;
            }
            int u = value;
            if (!readNumber(0, net.nodes - 1) || value == u || net.has(u, value)) {
                return false;
            }
            net.link(u, value);
            return true;
        }

        private boolean readRanked(Net net) {
            if (!readNumber(0, net.nodes - 1) || net.isRanked(value)) {
                return false;
            }
            net.rank[value] = ranked;
            ranked++;
            return true;
        }

        private boolean readNumber(int least, int most) {
            readToken();
            return token == NUMBER && value >= least && value <= most;
        }

        private void readToken() {
            while (at < length && letters[at] == BLANK) {
                at++;
            }
            tokenStart = at;
            if (at >= length) {
                token = END;
                return;
            }
            int first = letters[at];
            at++;
            if (!isDigit(first)) {
                token = isSign(first) ? first : WRONG;
                return;
            }
            value = first - '0';
            while (at < length && isDigit(letters[at])) {
                // Held just above the greatest one, so that no row of digits wraps round to a small number.
                value = Math.min(10 * value + letters[at] - '0', GREATEST_NUMBER + 1);
                at++;
            }
            boolean zeroAhead = first == '0' && at - tokenStart > 1;
            token = zeroAhead || value > GREATEST_NUMBER ? WRONG : NUMBER;
        }

        private static boolean isDigit(int letter) {
            return letter >= '0' && letter <= '9';
        }

        private static boolean isSign(int letter) {
            return letter == 'n' || letter == 'e' || letter == 'r' || letter == ';';
        }
    }

    /** What follows from a net: who comes where, RINGS, LABELS. Rows are by NODES, NAMES are bits. */
    private static final class Reach {
        final int[] ahead = new int[MOST_NODES];
        final int[] behind = new int[MOST_NODES];
        final int[] name = new int[MOST_NODES];
        final int[] in = new int[MOST_NODES];
        final int[] out = new int[MOST_NODES];
        private final int[] ringRank = new int[MOST_NODES];
        private final int[] lowerRanked = new int[MOST_NODES];
        private final int[] chainFrom = new int[MOST_NODES];
        private int nodes = 0;
        private int names = 0;

        void derive(Net net) {
            nodes = net.nodes;
            System.arraycopy(net.to, 0, ahead, 0, nodes);
            close(ahead, nodes);
            turnAround();
            nameRings();
            rankRings(net.rank);
            label();
        }

        boolean leads(int u, int v) {
            return holds(ahead[u], v);
        }

        int ringOf(int u) {
            return ahead[u] & behind[u];
        }

        int ringCount() {
            return Integer.bitCount(names);
        }

        int pairCount() {
            return pairsOf(ahead, nodes);
        }

        int labelCount() {
            int labels = 0;
            for (int c = 0; c < nodes; c++) {
                if (holds(names, c)) {
                    labels += Integer.bitCount(in[c]) + Integer.bitCount(out[c]);
                }
            }
            return labels;
        }

        /** Of RINGS, told by their NAMES. */
        int lowestRanked(int rings) {
            int found = NONE;
            for (int h = 0; h < nodes; h++) {
                if (holds(rings, h) && (found == NONE || ringRank[h] < ringRank[found])) {
                    found = h;
                }
            }
            return found;
        }

        int lone() {
            if (ringCount() == 1) {
                return 0;
            }
            int first = 0;
            int last = 0;
            for (int c = 0; c < nodes; c++) {
                if (holds(names, c)) {
                    first += behind[c] == ringOf(c) ? 1 : 0;
                    last += ahead[c] == ringOf(c) ? 1 : 0;
                }
            }
            return Math.max(first, last);
        }

        int chain() {
            int longest = 0;
            // A RING comes to more NODES than any that it comes to: by that number, those ahead are known first.
            for (int size = 1; size <= nodes; size++) {
                for (int c = 0; c < nodes; c++) {
                    if (holds(names, c) && Integer.bitCount(ahead[c]) == size) {
                        chainFrom[c] = 1 + longestFrom(ahead[c] & ~ringOf(c) & names);
                        longest = Math.max(longest, chainFrom[c]);
                    }
                }
            }
            return longest;
        }

        private int longestFrom(int rings) {
            int longest = 0;
            for (int c = 0; c < nodes; c++) {
                if (holds(rings, c)) {
                    longest = Math.max(longest, chainFrom[c]);
                }
            }
            return longest;
        }

        private void turnAround() {
            for (int v = 0; v < nodes; v++) {
                behind[v] = 0;
                for (int u = 0; u < nodes; u++) {
                    if (holds(ahead[u], v)) {
                        behind[v] |= bit(u);
                    }
                }
            }
        }

        private void nameRings() {
            names = 0;
            for (int u = 0; u < nodes; u++) {
                name[u] = lowest(ringOf(u));
                names |= bit(name[u]);
            }
        }

        private void rankRings(int[] rank) {
            for (int h = 0; h < nodes; h++) {
                ringRank[h] = rank[h];
                for (int u = 0; u < nodes; u++) {
                    if (holds(ringOf(h), u)) {
                        ringRank[h] = Math.min(ringRank[h], rank[u]);
                    }
                }
                lowerRanked[h] = 0;
                for (int u = 0; u < nodes; u++) {
                    if (rank[u] < ringRank[h]) {
                        lowerRanked[h] |= bit(u);
                    }
                }
            }
        }

        /** A RING between of a lower RANK has a NODE of that RANK there, so NODES tell what RINGS do. */
        private void label() {
            for (int c = 0; c < nodes; c++) {
                in[c] = 0;
                out[c] = 0;
                for (int h = 0; h < nodes; h++) {
                    if (!holds(names, h)) {
                        continue;
                    }
                    if (leads(h, c) && (ahead[h] & behind[c] & lowerRanked[h]) == 0) {
                        in[c] |= bit(h);
                    }
                    if (leads(c, h) && (ahead[c] & behind[h] & lowerRanked[h]) == 0) {
                        out[c] |= bit(h);
                    }
                }
            }
        }
    }

    /** RANKED anew. */
    private static final class Ranker {
        private final int[] weight = new int[MOST_NODES];

        void rank(Net net) {
            for (int u = 0; u < net.nodes; u++) {
                weight[u] = (Integer.bitCount(net.to[u]) + 1) * (net.edgesInto(u) + 1);
            }
            for (int u = 0; u < net.nodes; u++) {
                net.rank[u] = howManyAheadOf(u, net.nodes);
            }
        }

        private int howManyAheadOf(int u, int nodes) {
            int ahead = 0;
            for (int v = 0; v < nodes; v++) {
                if (weight[v] > weight[u] || weight[v] == weight[u] && v < u) {
                    ahead++;
                }
            }
            return ahead;
        }
    }

    /** WAY and EVERY. */
    private static final class Walks {
        private final int[] farOff = new int[MOST_NODES];

        /** How many EDGES, or NONE; farOff has then, by numbers of EDGES, from where so many lead to the end. */
        int shortest(Net net, int u, int v) {
            int leading = bit(v);
            for (int edges = 0; edges < net.nodes; edges++) {
                farOff[edges] = leading;
                if (holds(leading, u)) {
                    return edges;
                }
                leading = leadingTo(net, leading);
            }
            return NONE;
        }

        /** Behind shortest(), which found so many EDGES; k is no more than these. */
        int nodeOfShortest(Net net, int u, int edges, int k) {
            int here = u;
            for (int step = 1; step <= k && step <= edges; step++) {
                here = lowest(net.to[here] & farOff[edges - step]);
            }
            return here;
        }

        int onEvery(Net net, int u, int v, int some) {
            int every = some & (bit(u) | bit(v));
            for (int w = 0; w < net.nodes; w++) {
                if (holds(some & ~every, w) && !holds(net.spread(bit(u), bit(w)), v)) {
                    every |= bit(w);
                }
            }
            return every;
        }

        private static int leadingTo(Net net, int ends) {
            int found = 0;
            for (int u = 0; u < net.nodes; u++) {
                if ((net.to[u] & ends) != 0) {
                    found |= bit(u);
                }
            }
            return found;
        }
    }

    /** What one EDGE more or fewer would do. */
    private static final class Changes {
        private final int[] without = new int[MOST_NODES];

        /** Of an EDGE that is there: whether another way goes around it; such a one never needs u twice. */
        boolean isSpare(Net net, int u, int v) {
            return holds(net.spread(net.to[u] & ~bit(v), bit(u)), v);
        }

        int spareCount(Net net) {
            int spare = 0;
            for (int u = 0; u < net.nodes; u++) {
                for (int v = 0; v < net.nodes; v++) {
                    if (net.has(u, v) && isSpare(net, u, v)) {
                        spare++;
                    }
                }
            }
            return spare;
        }

        int pairsWithout(Net net, int u, int v) {
            System.arraycopy(net.to, 0, without, 0, net.nodes);
            without[u] &= ~bit(v);
            close(without, net.nodes);
            return pairsOf(without, net.nodes);
        }

        /** Whoever comes to u comes to all that v comes to. */
        int gainOf(Reach reach, int u, int v) {
            int gained = 0;
            for (int w = 0; w < MOST_NODES; w++) {
                if (holds(reach.behind[u], w)) {
                    gained += Integer.bitCount(reach.ahead[v] & ~reach.ahead[w]);
                }
            }
            return gained;
        }

        int bestToAdd(Net net, Reach reach) {
            int found = NONE;
            int most = -1;
            for (int u = 0; u < net.nodes; u++) {
                for (int v = 0; v < net.nodes; v++) {
                    if (!holds(net.missingFrom(u), v)) {
                        continue;
                    }
                    int gained = gainOf(reach, u, v);
                    if (gained > most) {
                        most = gained;
                        found = edgeNumber(u, v);
                    }
                }
            }
            return found;
        }
    }

    /** ODDS, a fraction in least terms. */
    private static final class Chances {
        long upper = 0;
        long lower = 1;
        private final int[] from = new int[MOST_UNSURE];
        private final int[] to = new int[MOST_UNSURE];
        private final long[] weights = new long[MOST_UNSURE + 1];
        private int edges = 0;

        void weigh(Net net, Reach reach, int x, int u, int v) {
            takeEdges(net, reach.ahead[u] & reach.behind[v]);
            weighCounts(x);
            upper = 0;
            for (int standing = 0; standing < bit(edges); standing++) {
                if (arrives(standing, u, v)) {
                    upper += weights[Integer.bitCount(standing)];
                }
            }
            lower = power(TENTHS, edges);
            reduce();
        }

        /** Only EDGES on some walk matter: whether others fail sums up to 1. */
        private void takeEdges(Net net, int some) {
            edges = 0;
            for (int u = 0; u < net.nodes; u++) {
                for (int v = 0; v < net.nodes; v++) {
                    boolean matters = holds(some, u) && holds(some, v) && net.has(u, v);
                    if (matters && edges < MOST_UNSURE) {
                        from[edges] = u;
                        to[edges] = v;
                        edges++;
                    }
                }
            }
        }

        /** By how many EDGES stand; the rest fail. */
        private void weighCounts(int x) {
            for (int stand = 0; stand <= edges; stand++) {
                weights[stand] = power(TENTHS - x, stand) * power(x, edges - stand);
            }
        }

        private boolean arrives(int standing, int u, int v) {
            int reached = bit(u);
            for (int round = 0; round <= edges && !holds(reached, v); round++) {
                int before = reached;
                for (int e = 0; e < edges; e++) {
                    if (holds(standing, e) && holds(reached, from[e])) {
                        reached |= bit(to[e]);
                    }
                }
                if (reached == before) {
                    break;
                }
            }
            return holds(reached, v);
        }

        private void reduce() {
            long a = lower;
            long b = upper;
            // Euclid's steps for numbers up to ten to the ninth are fewer than 50.
            for (int step = 0; step < 100 && b != 0; step++) {
                long rest = a % b;
                a = b;
                b = rest;
            }
            if (a > 1) {
                upper /= a;
                lower /= a;
            }
        }

        private static long power(long base, int times) {
            long product = 1;
            for (int i = 0; i < times; i++) {
                product *= base;
            }
            return product;
        }
    }

    /** What was SEEN, and the EDGES that fit it. */
    private static final class Sights {
        int size = 0;
        private final int[] from = new int[MOST_SEEN];
        private final int[] to = new int[MOST_SEEN];
        private final int[] came = new int[MOST_SEEN];
        private final int[] fits = new int[MOST_NODES];
        private int nodes = 0;

        boolean append(int u, int v, int didCome) {
            if (size >= MOST_SEEN) {
                return false;
            }
            from[size] = u;
            to[size] = v;
            came[size] = didCome;
            size++;
            return true;
        }

        /** Finds UNSEEN: rows by the one, bits for the other. */
        void sift(Net net, Reach reach) {
            nodes = net.nodes;
            for (int p = 0; p < nodes; p++) {
                fits[p] = net.missingFrom(p);
                for (int i = 0; i < size; i++) {
                    int making = making(reach, p, from[i], to[i]);
                    fits[p] &= came[i] == 1 ? making : ~making;
                }
            }
        }

        int fitting() {
            int found = 0;
            for (int p = 0; p < nodes; p++) {
                found += Integer.bitCount(fits[p]);
            }
            return found;
        }

        int firstFitting() {
            for (int p = 0; p < nodes; p++) {
                if (fits[p] != 0) {
                    return edgeNumber(p, lowest(fits[p]));
                }
            }
            return NONE;
        }

        int bestQuestion(Reach reach) {
            int all = fitting();
            if (all <= 1) {
                return NONE;
            }
            int found = NONE;
            int least = all + 1;
            for (int u = 0; u < nodes; u++) {
                for (int v = 0; v < nodes; v++) {
                    int part = u == v ? 0 : fittingSo(reach, u, v);
                    int greater = Math.max(part, all - part);
                    if (u != v && greater < least) {
                        least = greater;
                        found = edgeNumber(u, v);
                    }
                }
            }
            return found;
        }

        private int fittingSo(Reach reach, int u, int v) {
            int part = 0;
            for (int p = 0; p < nodes; p++) {
                part += Integer.bitCount(fits[p] & making(reach, p, u, v));
            }
            return part;
        }

        /** To which NODES an EDGE from p may be ADDED so that u comes to v then. */
        private static int making(Reach reach, int p, int u, int v) {
            if (reach.leads(u, v)) {
                return -1;
            }
            return reach.leads(u, p) ? reach.behind[v] : 0;
        }
    }

    /** What may be UNDONE. */
    private static final class Past {
        int size = 0;
        private final Net[] nets = new Net[MOST_UNDONE];

        Past() {
            for (int i = 0; i < MOST_UNDONE; i++) {
                nets[i] = new Net();
            }
        }

        void remember(Net net) {
            if (size == MOST_UNDONE) {
                dropOldest();
            }
            nets[size].become(net);
            size++;
        }

        boolean restore(Net net) {
            if (size == 0) {
                return false;
            }
            size--;
            net.become(nets[size]);
            return true;
        }

        private void dropOldest() {
            Net oldest = nets[0];
            for (int i = 1; i < MOST_UNDONE; i++) {
                nets[i - 1] = nets[i];
            }
            // Its rows are used again for the latest one.
            nets[MOST_UNDONE - 1] = oldest;
            size--;
        }
    }

    /** IMAGES. */
    private static final class Album {
        private final Net[] nets = new Net[IMAGES];
        private final boolean[] kept = new boolean[IMAGES];

        Album() {
            for (int i = 0; i < IMAGES; i++) {
                nets[i] = new Net();
            }
        }

        void empty() {
            for (int i = 0; i < IMAGES; i++) {
                kept[i] = false;
            }
        }

        void take(int image, Net net) {
            nets[image].become(net);
            kept[image] = true;
        }

        boolean show(int image, Net net) {
            if (!kept[image]) {
                return false;
            }
            net.become(nets[image]);
            return true;
        }
    }
}
