/** Promise by promise: ordinary inputs, the edges that the document names, wrong inputs; all worked out by hand. */
public final class PromiseTest {
    private static final int BAD = -1, STATE = -2, FULL = -3, NONE = -9;
    private static final int[] NO_NODES = {-1, 4, 12, Integer.MIN_VALUE, Integer.MAX_VALUE};

    private static int wrong = 0;
    private static int promise = 0;

    public static void main(String[] args) {
        constants();
        newObject();
        type();
        clear();
        graph();
        graphFaults();
        graphTellsAllAnew();
        node();
        labelsByRank();
        edge();
        now();
        adds();
        cuts();
        ranks();
        undo();
        comes();
        hub();
        way();
        on();
        loss();
        gain();
        best();
        odds();
        sees();
        forget();
        unseen();
        next();
        keep();
        back();
        count();
        System.out.println(wrong == 0 ? "all promises hold" : wrong + " answers are not as due");
        System.exit(wrong == 0 ? 0 : 1);
    }

    private static void due(String call, int got, int want) {
        if (got != want) {
            wrong++;
            System.out.println("promise " + promise + ": " + call + " answered " + got + ", due is " + want);
        }
    }

    private static void typeAll(ReachLabels x, String text) {
        for (int i = 0; i < text.length(); i++) x.type(text.charAt(i));
    }

    private static ReachLabels told(String text) {
        ReachLabels x = new ReachLabels();
        typeAll(x, text);
        int items = x.graph();
        if (items < 0) due("graph() of " + text, items, 0);
        return x;
    }

    /** By adds(), as so many EDGES are more than a text can tell. */
    private static ReachLabels complete(int nodes) {
        ReachLabels x = told("n" + nodes + ";");
        for (int u = 0; u < nodes; u++) for (int v = 0; v < nodes; v++) if (u != v) x.adds(u, v);
        return x;
    }

    private static void constants() {
        due("BAD", ReachLabels.BAD, BAD);
        due("STATE", ReachLabels.STATE, STATE);
        due("FULL", ReachLabels.FULL, FULL);
        due("NONE", ReachLabels.NONE, NONE);
    }

    private static void newObject() {
        promise = 1;
        ReachLabels x = new ReachLabels();
        due("count(0)", x.count(0), 4);
        due("count(1)", x.count(1), 0);
        due("count(2)", x.count(2), 0);
        due("now(0)", x.now(0), 0);
        due("now(1)", x.now(1), 4);
        due("now(2)", x.now(2), 8);
        due("now(7)", x.now(7), 0);
        for (int u = 0; u < 4; u++) {
            due("node(u, 2)", x.node(u, 2), u);
            for (int v = 0; v < 4; v++) if (u != v) due("edge(u, v)", x.edge(u, v), 0);
        }
        due("back(0)", x.back(0), STATE);
        due("back(1)", x.back(1), STATE);
    }

    private static void type() {
        promise = 2;
        ReachLabels x = new ReachLabels();
        due("type(0)", x.type(0), 1);
        due("type(255)", x.type(255), 2);
        due("type(-1)", x.type(-1), BAD);
        due("type(256)", x.type(256), BAD);
        due("type(MIN)", x.type(Integer.MIN_VALUE), BAD);
        due("type(MAX)", x.type(Integer.MAX_VALUE), BAD);
        for (int i = 3; i <= 120; i++) due("type(32)", x.type(32), i);
        due("the 121st", x.type(32), FULL);
        due("BAD ahead of FULL", x.type(256), BAD);
        due("count(2)", x.count(2), 120);
    }

    private static void clear() {
        promise = 3;
        ReachLabels x = told("n5;e0 1;");
        due("clear() of nothing", x.clear(), 0);
        typeAll(x, "n3;");
        due("clear()", x.clear(), 3);
        due("count(2)", x.count(2), 0);
        due("the graph stays", x.edge(0, 1), 1);
        due("type() behind it", x.type('n'), 1);
    }

    private static int fault(String text) {
        ReachLabels x = new ReachLabels();
        typeAll(x, text);
        return x.graph();
    }

    private static void graph() {
        promise = 4;
        due("empty", fault(""), 0);
        due("blanks", fault("   "), 0);
        due("n alone", fault("n12;"), 1);
        due("blanks around", fault("  n 3 ; e 0   1 ;r 2; "), 3);
        due("no blanks", fault("n3;e0 1;r2;"), 3);
        due("without n", fault("e3 0;r3;"), 2);
        due("n1 has a NODE", fault("n1;r0;"), 2);
        due("the last NODE of 12", fault("n12;e11 0;e0 11;r11;"), 4);
        ReachLabels x = told("n5;e4 1;r3;r1;");
        due("count(0)", x.count(0), 5);
        due("count(2)", x.count(2), 0);
        due("edge(4, 1)", x.edge(4, 1), 1);
        due("edge(1, 4)", x.edge(1, 4), 0);
        int[] rank = {2, 1, 3, 0, 4};
        for (int u = 0; u < 5; u++) due("rank of " + u, x.node(u, 2), rank[u]);
    }

    private static void graphFaults() {
        String[] texts = {
            "x", ";", "5", "N3;", "n0;", "n13;", "n 100;", "n00;", "n012;", "n;", "n3 4;", "n3", "n", "n3  ",
            "n3;n3;", "e0 1;n5;", "r0;n5;", "e4 0;", "e0 4;", "e1 1;", "e01 2;", "e0 1;e1 0;e0 1;", "e0;", "e0 1 2;",
            "e0 1", "e0 ", "e", "r4;", "r0;r1;r0;", "r;", "r0 1;", "r0", "n3;e2 3;", "n3;r3;", "n3e", "n3;\te0 1;",
            "n3;e0 1;;", "e0 1,", "e0 00;", "e0 100;", "n99999999999;", "n4294967299;", "e0 n", "e0 0x", "r0;x", "nn3;",
            "n3;e0 1;e0 2;e1 4;x", "e-1 0;", "n3\0;", "n3\u00ff;"};
        int[] places = {
            0, 0, 0, 0, 1, 1, 2, 1, 1, 1, 3, 2, 1, 4,
            3, 5, 3, 1, 3, 3, 1, 13, 2, 5,
            4, 3, 1, 1, 7, 1, 3, 2, 6, 4, 2, 3,
            8, 4, 3, 3, 1, 1, 3, 3, 3, 1,
            16, 1, 2, 2};
        for (int i = 0; i < texts.length; i++) due("graph() of " + texts[i], fault(texts[i]), -10 - places[i]);
        StringBuilder full = new StringBuilder("n1;");
        while (full.length() < 119) full.append(' ');
        due("120 letters, the last one wrong", fault(full + "?"), -129);
        due("120 letters, too early", fault(full + "e"), -130);
    }

    private static void graphTellsAllAnew() {
        ReachLabels x = told("n3;e0 1;r2;");
        x.adds(1, 2);
        x.keep(0);
        x.sees(0, 2, 1);
        typeAll(x, "n2;e0 0;");
        due("graph() with a fault", x.graph(), -16);
        due("THE TEXT stays", x.count(2), 8);
        due("NODES stay", x.count(0), 3);
        due("SEEN stays", x.count(1), 1);
        due("UNDONE stays", x.now(7), 1);
        due("EDGES stay", x.now(0), 2);
        due("RANKS stay", x.node(2, 2), 0);
        due("IMAGES stay", x.back(0), 2);
        x.clear();
        x.cuts(0, 1);
        due("graph() of nothing", x.graph(), 0);
        due("NODES as at first", x.count(0), 4);
        due("EDGES are gone", x.now(0), 0);
        due("RANKS are gone", x.node(2, 2), 2);
        due("SEEN is gone", x.count(1), 0);
        due("nothing is UNDONE", x.now(7), 0);
        due("undo()", x.undo(), STATE);
        due("IMAGES are gone", x.back(0), STATE);
    }

    private static void node() {
        promise = 5;
        // 1 and 2 are a RING, 0 leads to it, it leads to 3; 4 is by itself.
        ReachLabels x = told("n5;e0 1;e1 2;e2 1;e2 3;r3;r2;");
        int[][] want = {
            {0, 1, 2, 1, 11, 15, 1},
            {1, 6, 3, 2, 10, 14, 7},
            {1, 6, 1, 2, 10, 14, 7},
            {3, 8, 0, 8, 8, 8, 15},
            {4, 16, 4, 16, 16, 16, 16}};
        // IN of 1: 0 comes to it, but 1 itself has a lower RANK (1, by 2) than 0 (2).
        for (int u = 0; u < 5; u++) {
            for (int what = 0; what <= 6; what++) due("node(" + u + ", " + what + ")", x.node(u, what), want[u][what]);
            due("node(u, 7)", x.node(u, 7), BAD);
            due("node(u, -1)", x.node(u, -1), BAD);
        }
        due("node(5, 0)", x.node(5, 0), BAD);
        due("node(-1, 0)", x.node(-1, 0), BAD);
        due("node(11, 0)", x.node(11, 0), BAD);
        due("node(MIN, 0)", x.node(Integer.MIN_VALUE, 0), BAD);
        due("node(0, MAX)", x.node(0, Integer.MAX_VALUE), BAD);
        ReachLabels alone = told("n1;");
        int[] one = {0, 1, 0, 1, 1, 1, 1};
        for (int what = 0; what <= 6; what++) due("of one NODE", alone.node(0, what), one[what]);
    }

    private static void labelsByRank() {
        // A chain 0, 1, 2: the middle one first, so that it is the hub of all.
        ReachLabels x = told("n3;e0 1;e1 2;r1;");
        int[] in = {1, 2, 6};
        int[] out = {3, 2, 4};
        for (int u = 0; u < 3; u++) {
            due("IN", x.node(u, 3), in[u]);
            due("OUT", x.node(u, 4), out[u]);
        }
        ReachLabels y = told("n3;e0 1;e1 2;r2;r1;r0;");
        int[] in2 = {1, 2, 4};
        int[] out2 = {7, 6, 4};
        for (int u = 0; u < 3; u++) {
            due("IN, backward", y.node(u, 3), in2[u]);
            due("OUT, backward", y.node(u, 4), out2[u]);
        }
    }

    private static void edge() {
        promise = 6;
        ReachLabels x = told("e0 1;e3 2;");
        due("edge(0, 1)", x.edge(0, 1), 1);
        due("edge(1, 0)", x.edge(1, 0), 0);
        due("edge(3, 2)", x.edge(3, 2), 1);
        due("edge(2, 2)", x.edge(2, 2), BAD);
        for (int u : NO_NODES) {
            due("edge(u, 0)", x.edge(u, 0), BAD);
            due("edge(0, u)", x.edge(0, u), BAD);
        }
    }

    private static void now() {
        promise = 7;
        // Two diamonds' halves: 0 to 1, 2, both to 3, and 0 to 3 at once; 4, 5 a RING; 6 by itself.
        ReachLabels x = told("n7;e0 1;e0 2;e1 3;e2 3;e0 3;e4 5;e5 4;");
        int[] want = {7, 6, 17, 7, 1, 3, 3, 0};
        for (int what = 0; what <= 7; what++) due("now(" + what + ")", x.now(what), want[what]);
        due("now(8)", x.now(8), BAD);
        due("now(-1)", x.now(-1), BAD);
        due("now(MIN)", x.now(Integer.MIN_VALUE), BAD);
        ReachLabels all = complete(12);
        int[] wantAll = {132, 1, 2, 132, 132, 0, 1, 10};
        for (int what = 0; what <= 7; what++) due("of all EDGES, now(" + what + ")", all.now(what), wantAll[what]);
        ReachLabels one = told("n1;");
        int[] wantOne = {0, 1, 2, 0, 0, 0, 1, 0};
        for (int what = 0; what <= 7; what++) due("of one NODE, now(" + what + ")", one.now(what), wantOne[what]);
        due("LONE by more ends", told("e0 1;e0 2;e0 3;").now(5), 3);
        due("LONE by more starts", told("e1 0;e2 0;e3 0;").now(5), 3);
        due("LONE of two RINGS in a row", told("e0 1;e1 0;e1 2;e2 3;e3 2;").now(5), 1);
    }

    private static void adds() {
        promise = 8;
        ReachLabels x = new ReachLabels();
        due("adds(0, 1)", x.adds(0, 1), 9);
        due("edge(0, 1)", x.edge(0, 1), 1);
        due("adds(1, 0)", x.adds(1, 0), 6);
        due("now(7)", x.now(7), 2);
        due("adds(0, 1) again", x.adds(0, 1), STATE);
        due("adds(2, 2)", x.adds(2, 2), BAD);
        for (int u : NO_NODES) {
            due("adds(u, 0)", x.adds(u, 0), BAD);
            due("adds(0, u)", x.adds(0, u), BAD);
        }
        due("refused ones change nothing", x.now(0), 2);
        due("nor can be UNDONE", x.now(7), 2);
    }

    private static void cuts() {
        promise = 9;
        ReachLabels x = told("e0 1;e1 0;");
        due("cuts(0, 1)", x.cuts(0, 1), 9);
        due("edge(0, 1)", x.edge(0, 1), 0);
        due("edge(1, 0)", x.edge(1, 0), 1);
        due("cuts(0, 1) again", x.cuts(0, 1), STATE);
        due("cuts(1, 1)", x.cuts(1, 1), BAD);
        for (int u : NO_NODES) {
            due("cuts(u, 0)", x.cuts(u, 0), BAD);
            due("cuts(0, u)", x.cuts(0, u), BAD);
        }
        due("now(7)", x.now(7), 1);
        due("cuts(1, 0)", x.cuts(1, 0), 8);
    }

    private static void ranks() {
        promise = 10;
        // Products: 0 has 3 x 1, 1 has 2 x 2, 2 has 1 x 3, 3 has 1 x 1, 4 has 2 x 2 .
        ReachLabels x = told("n5;e0 1;e0 4;e1 2;e4 2;");
        due("now(2)", x.now(2), 15);
        due("ranks()", x.ranks(), 14);
        int[] want = {2, 0, 3, 4, 1};
        for (int u = 0; u < 5; u++) due("rank of " + u, x.node(u, 2), want[u]);
        due("ranks() again may be UNDONE too", x.ranks(), 14);
        due("now(7)", x.now(7), 2);
        ReachLabels star = told("n5;e0 4;e1 4;e4 2;e4 3;");
        due("before", star.now(2), 18);
        due("the middle first", star.ranks(), 14);
        due("rank of 4", star.node(4, 2), 0);
        due("adds() leaves RANKS", star.adds(0, 1) > 0 ? star.node(4, 2) : -1, 0);
    }

    private static void undo() {
        promise = 11;
        ReachLabels x = told("r3;");
        due("undo() of none", x.undo(), STATE);
        x.adds(0, 1);
        x.adds(1, 2);
        x.ranks();
        x.cuts(0, 1);
        due("rank of 1", x.node(1, 2), 0);
        due("undo() of cuts", x.undo(), 3);
        due("edge(0, 1)", x.edge(0, 1), 1);
        due("comes(0, 2)", x.comes(0, 2), 1);
        due("undo() of ranks", x.undo(), 2);
        due("rank of 3", x.node(3, 2), 0);
        due("rank of 1", x.node(1, 2), 2);
        due("undo() of adds", x.undo(), 1);
        due("edge(1, 2)", x.edge(1, 2), 0);
        due("undo() of adds", x.undo(), 0);
        due("now(0)", x.now(0), 0);
        due("undo() of none", x.undo(), STATE);
        for (int i = 0; i < 6; i++) {
            x.adds(0, 1);
            x.cuts(0, 1);
        }
        x.adds(0, 2);
        due("10 are known", x.now(7), 10);
        for (int left = 9; left >= 0; left--) due("undo()", x.undo(), left);
        due("older ones are lost", x.undo(), STATE);
        due("as it was then", x.edge(0, 1), 1);
        due("as it was then", x.edge(0, 2), 0);
    }

    private static void comes() {
        promise = 12;
        ReachLabels x = told("e0 1;e1 2;");
        due("comes(0, 2)", x.comes(0, 2), 1);
        due("comes(2, 0)", x.comes(2, 0), 0);
        due("comes(3, 3)", x.comes(3, 3), 1);
        due("comes(0, 3)", x.comes(0, 3), 0);
        for (int u : NO_NODES) {
            due("comes(u, 0)", x.comes(u, 0), BAD);
            due("comes(0, u)", x.comes(0, u), BAD);
        }
    }

    private static void hub() {
        promise = 13;
        ReachLabels x = told("n5;e0 1;e1 2;e2 3;e3 2;r3;r1;");
        due("by the RING's NAME, not its first RANKED", x.hub(0, 3), 2);
        due("hub(0, 1)", x.hub(0, 1), 1);
        due("hub(0, 0)", x.hub(0, 0), 0);
        due("hub(3, 2)", x.hub(3, 2), 2);
        due("hub(1, 0)", x.hub(1, 0), NONE);
        due("hub(0, 4)", x.hub(0, 4), NONE);
        due("hub(5, 0)", x.hub(5, 0), BAD);
        due("hub(0, -1)", x.hub(0, -1), BAD);
    }

    private static void way() {
        promise = 14;
        // 0 to 5 in three EDGES by 1 4, 2 3, 2 4; the longer one by 1 alone is not it.
        ReachLabels x = told("n7;e0 2;e0 1;e2 3;e2 4;e1 4;e3 5;e4 5;e5 0;");
        int[] want = {0, 1, 4, 5};
        due("way(0, 5, -1)", x.way(0, 5, -1), 3);
        for (int k = 0; k < 4; k++) due("way(0, 5, k)", x.way(0, 5, k), want[k]);
        due("way(0, 5, 4)", x.way(0, 5, 4), NONE);
        due("way(0, 5, MAX)", x.way(0, 5, Integer.MAX_VALUE), NONE);
        due("way(2, 5, 1)", x.way(2, 5, 1), 3);
        due("way(3, 3, -1)", x.way(3, 3, -1), 0);
        due("way(3, 3, 0)", x.way(3, 3, 0), 3);
        due("way(3, 3, 1)", x.way(3, 3, 1), NONE);
        due("way(0, 6, -1)", x.way(0, 6, -1), NONE);
        due("way(0, 6, 0)", x.way(0, 6, 0), NONE);
        due("way(0, 5, -2)", x.way(0, 5, -2), BAD);
        due("way(0, 5, MIN)", x.way(0, 5, Integer.MIN_VALUE), BAD);
        due("way(7, 5, 0)", x.way(7, 5, 0), BAD);
        due("way(0, 7, 0)", x.way(0, 7, 0), BAD);
        due("way(-1, 0, 0)", x.way(-1, 0, 0), BAD);
        ReachLabels ring = told("n12;e0 1;e1 2;e2 3;e3 4;e4 5;e5 6;e6 7;e7 8;e8 9;e9 10;e10 11;e11 0;");
        due("11 EDGES", ring.way(1, 0, -1), 11);
        for (int k = 0; k < 12; k++) due("way(1, 0, k)", ring.way(1, 0, k), (k + 1) % 12);
    }

    private static void on() {
        promise = 15;
        // 0 to 1, 2, both to 3; 3 and 4 a RING, 3 to 5; 6 leads nowhere on.
        ReachLabels x = told("n7;e0 1;e0 2;e1 3;e2 3;e3 4;e4 3;e3 5;e0 6;");
        due("SOME", x.on(0, 5, 0), 0b111111);
        due("EVERY", x.on(0, 5, 1), 0b101001);
        due("SOME of itself", x.on(3, 3, 0), 0b11000);
        due("EVERY of itself", x.on(3, 3, 1), 0b1000);
        due("SOME of one by itself", x.on(6, 6, 0), 0b1000000);
        due("it does not come there", x.on(5, 0, 0), 0);
        due("it does not come there", x.on(5, 0, 1), 0);
        due("on(0, 5, 2)", x.on(0, 5, 2), BAD);
        due("on(0, 5, -1)", x.on(0, 5, -1), BAD);
        due("on(7, 0, 0)", x.on(7, 0, 0), BAD);
        due("on(0, 7, 0)", x.on(0, 7, 0), BAD);
        due("on(5, 0, 2)", x.on(5, 0, 2), BAD);
    }

    private static void loss() {
        promise = 16;
        ReachLabels x = told("n5;e0 1;e1 2;e0 2;e2 3;e3 0;");
        due("SPARE", x.loss(0, 2, 0), 1);
        due("SPARE loses none", x.loss(0, 2, 1), 0);
        due("not SPARE", x.loss(1, 2, 0), 0);
        due("without 1 2, 1 comes nowhere", x.loss(1, 2, 1), 3);
        due("without 2 3, three fall apart", x.loss(2, 3, 1), 6);
        due("nothing is changed", x.now(3), 12);
        due("not there", x.loss(2, 0, 0), STATE);
        due("not there", x.loss(2, 0, 1), STATE);
        due("BAD ahead of STATE", x.loss(2, 0, 2), BAD);
        due("loss(0, 1, -1)", x.loss(0, 1, -1), BAD);
        due("loss(1, 1, 0)", x.loss(1, 1, 0), BAD);
        due("loss(5, 0, 0)", x.loss(5, 0, 0), BAD);
        due("loss(0, 5, 0)", x.loss(0, 5, 0), BAD);
    }

    private static void gain() {
        promise = 17;
        ReachLabels x = told("n5;e0 1;e1 2;e3 4;");
        due("gain(2, 3)", x.gain(2, 3), 6);
        due("gain(0, 2)", x.gain(0, 2), 0);
        due("gain(2, 0)", x.gain(2, 0), 3);
        due("gain(1, 4)", x.gain(1, 4), 2);
        due("nothing is changed", x.now(3), 4);
        due("gain(0, 1)", x.gain(0, 1), STATE);
        due("gain(3, 3)", x.gain(3, 3), BAD);
        due("gain(5, 0)", x.gain(5, 0), BAD);
        due("gain(0, -1)", x.gain(0, -1), BAD);
    }

    private static void best() {
        promise = 18;
        ReachLabels x = told("n5;e0 1;e1 2;e3 4;");
        due("best(0)", x.best(0), 16 * 2 + 3);
        due("best(1)", x.best(1), 6);
        due("best(2)", x.best(2), BAD);
        due("best(-1)", x.best(-1), BAD);
        ReachLabels ring = told("n3;e0 1;e1 2;e2 0;");
        due("of GAIN 0, the first", ring.best(0), 2);
        due("GAIN 0", ring.best(1), 0);
        ReachLabels last = complete(12);
        due("all are there", last.best(0), NONE);
        due("all are there", last.best(1), NONE);
        last.cuts(11, 10);
        due("the only one", last.best(0), 16 * 11 + 10);
        ReachLabels one = told("n1;");
        due("one NODE", one.best(0), NONE);
        due("one NODE", one.best(1), NONE);
    }

    private static void fraction(ReachLabels x, int tenths, int u, int v, int upper, int lower) {
        due("odds(" + tenths + ", " + u + ", " + v + ", 0)", x.odds(tenths, u, v, 0), upper);
        due("odds(" + tenths + ", " + u + ", " + v + ", 1)", x.odds(tenths, u, v, 1), lower);
    }

    private static void odds() {
        promise = 19;
        ReachLabels x = told("n5;e0 1;e1 3;e0 2;e2 3;e3 0;");
        // Each half stands by 81 of 100: 1 less 19 of 100 twice.
        fraction(x, 1, 0, 3, 9639, 10000);
        fraction(x, 5, 0, 1, 1, 2);
        fraction(x, 4, 3, 1, 9, 25);
        fraction(x, 0, 0, 3, 1, 1);
        fraction(x, 10, 0, 3, 0, 1);
        fraction(x, 10, 3, 3, 1, 1);
        fraction(x, 3, 4, 0, 0, 1);
        fraction(x, 0, 4, 0, 0, 1);
        due("odds(-1, ..)", x.odds(-1, 0, 1, 0), BAD);
        due("odds(11, ..)", x.odds(11, 0, 1, 0), BAD);
        due("odds(1, 5, ..)", x.odds(1, 5, 1, 0), BAD);
        due("odds(1, 0, 5, ..)", x.odds(1, 0, 5, 0), BAD);
        due("odds(.., 2)", x.odds(1, 0, 1, 2), BAD);
        due("odds(.., -1)", x.odds(1, 0, 1, -1), BAD);
        ReachLabels row = told("n12;e0 1;e1 2;e2 3;e3 4;e4 5;e5 6;e6 7;e7 8;e8 9;");
        fraction(row, 1, 0, 9, 387420489, 1000000000);
        fraction(row, 9, 0, 9, 1, 1000000000);
        row.adds(9, 10);
        due("10 EDGES", row.odds(1, 0, 9, 0), STATE);
        due("10 EDGES", row.odds(1, 3, 3, 1), STATE);
        due("BAD ahead of STATE", row.odds(11, 0, 9, 0), BAD);
        due("BAD ahead of STATE", row.odds(1, 0, 9, 2), BAD);
    }

    private static void sees() {
        promise = 20;
        ReachLabels x = new ReachLabels();
        due("sees(0, 1, 1)", x.sees(0, 1, 1), 1);
        due("sees(0, 1, 1) again", x.sees(0, 1, 1), 2);
        due("sees(2, 2, 0)", x.sees(2, 2, 0), 3);
        due("sees(0, 0, 2)", x.sees(0, 0, 2), BAD);
        due("sees(0, 0, -1)", x.sees(0, 0, -1), BAD);
        for (int u : NO_NODES) {
            due("sees(u, 0, 0)", x.sees(u, 0, 0), BAD);
            due("sees(0, u, 0)", x.sees(0, u, 0), BAD);
        }
        due("sees(1, 2, 0)", x.sees(1, 2, 0), 4);
        due("sees(1, 3, 0)", x.sees(1, 3, 0), 5);
        due("sees(3, 1, 0)", x.sees(3, 1, 0), 6);
        due("the seventh", x.sees(3, 1, 0), FULL);
        due("BAD ahead of FULL", x.sees(3, 1, 2), BAD);
        due("count(1)", x.count(1), 6);
    }

    private static void forget() {
        promise = 21;
        ReachLabels x = new ReachLabels();
        due("forget() of nothing", x.forget(), 0);
        x.sees(0, 1, 1);
        x.sees(0, 2, 0);
        due("forget()", x.forget(), 2);
        due("count(1)", x.count(1), 0);
        due("unseen(0)", x.unseen(0), 12);
        due("sees() behind it", x.sees(0, 1, 1), 1);
    }

    private static void unseen() {
        promise = 22;
        ReachLabels x = told("n4;e0 1;e2 3;");
        due("all that are not there", x.unseen(0), 10);
        due("the first", x.unseen(1), 2);
        x.sees(0, 3, 1);
        due("0 2, 0 3, 1 2, 1 3", x.unseen(0), 4);
        x.sees(0, 2, 0);
        due("0 3, 1 3", x.unseen(0), 2);
        due("the first", x.unseen(1), 3);
        x.sees(1, 3, 1);
        due("1 3", x.unseen(0), 1);
        due("1 3", x.unseen(1), 19);
        x.adds(1, 3);
        due("it is there now; 0 2, 1 2, 3 2 can't be", x.unseen(0), 6);
        due("of those the first: 0 3", x.unseen(1), 3);
        x.undo();
        due("undo() leaves SEEN", x.unseen(1), 19);
        x.sees(2, 2, 0);
        due("it can't be", x.unseen(0), 0);
        due("it can't be", x.unseen(1), NONE);
        due("unseen(2)", x.unseen(2), BAD);
        due("unseen(-1)", x.unseen(-1), BAD);
        due("one NODE", told("n1;").unseen(1), NONE);
        due("one NODE", told("n1;").unseen(0), 0);
    }

    private static void next() {
        promise = 23;
        ReachLabels x = told("n3;e0 1;");
        // Can be: 0 2, 1 0, 1 2, 2 0, 2 1. 2 comes to 1 by two of them, 0 to 2 by two; 0 2 is the first of 3 against 2.
        due("next()", x.next(), 2);
        x.sees(0, 2, 0);
        // Left: 1 0, 2 0, 2 1. 1 comes to 0 by one of them: 2 against 1, the first such one.
        due("next()", x.next(), 16);
        x.sees(1, 0, 0);
        due("2 0 alone makes 2 come to 0", x.next(), 32);
        x.sees(2, 0, 1);
        due("one can be", x.next(), NONE);
        x.sees(2, 0, 0);
        due("none can be", x.next(), NONE);
        due("one NODE", told("n1;").next(), NONE);
        // In one RING every EDGE leaves all as it is: no question parts them, the first is asked.
        due("no question parts them", told("n3;e0 1;e1 2;e2 0;").next(), 1);
    }

    private static void keep() {
        promise = 24;
        ReachLabels x = told("e0 1;e1 2;");
        due("keep(0)", x.keep(0), 2);
        due("keep(2)", x.keep(2), BAD);
        due("keep(-1)", x.keep(-1), BAD);
        x.adds(2, 3);
        due("keep(1)", x.keep(1), 3);
        due("may be UNDONE still", x.undo(), 0);
        x.cuts(0, 1);
        due("keep(0) anew", x.keep(0), 1);
        x.adds(0, 1);
        due("back(0)", x.back(0), 1);
        due("back(1)", x.back(1), 3);
    }

    private static void back() {
        promise = 25;
        ReachLabels x = told("e0 1;e1 2;r2;");
        due("none was kept", x.back(0), STATE);
        x.keep(0);
        due("nor of the other", x.back(1), STATE);
        due("back(2)", x.back(2), BAD);
        due("back(-1)", x.back(-1), BAD);
        x.sees(2, 0, 1);
        x.adds(2, 0);
        x.ranks();
        due("a refused one leaves what may be UNDONE", x.now(7), 2);
        x.type('n');
        due("back(0)", x.back(0), 2);
        due("EDGES", x.edge(2, 0), 0);
        due("RANKS", x.node(2, 2), 0);
        due("LABELS", x.now(2), 11);
        due("SEEN stays", x.count(1), 1);
        due("THE TEXT stays", x.count(2), 1);
        due("nothing can be UNDONE", x.now(7), 0);
        due("nothing can be UNDONE", x.undo(), STATE);
        x.adds(2, 0);
        due("an IMAGE is not used up", x.back(0), 2);
    }

    private static void count() {
        promise = 26;
        ReachLabels x = told("n12;");
        due("count(0)", x.count(0), 12);
        x.type('?');
        x.sees(11, 0, 1);
        due("count(1)", x.count(1), 1);
        due("count(2)", x.count(2), 1);
        due("count(3)", x.count(3), BAD);
        due("count(-1)", x.count(-1), BAD);
        due("count(MIN)", x.count(Integer.MIN_VALUE), BAD);
    }
}
