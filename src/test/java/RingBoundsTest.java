/** The boundaries of 'Terms' 2 and of promises 5 to 13: RINGS, LABELS, what is done and UNDONE. */
public final class RingBoundsTest {
    private static final int BAD = Check.BAD, STATE = Check.STATE, NONE = Check.NONE;
    private static final int ALL12 = 4095;

    public static void main(String[] args) {
        comesToItself();
        comesWhereEdgesLead();
        ringsAlone();
        ringOfAll();
        nameIsTheLowestNode();
        rankIsTheLowestOfItsNodes();
        inUpTheRow();
        outDownTheRow();
        noLabelBehindALowerOne();
        labelsTellWhoComes();
        hubOfLowestRank();
        rankedAnewWithOneMore();
        rankedAnewOfLikeOnes();
        rankedAnewGreatest();
        node();
        edge();
        now();
        nowOfOneNode();
        nowOfAllEdges();
        adds();
        addsAll();
        cuts();
        cutsAll();
        ranks();
        tenAreKnown();
        olderAreLost();
        refusedAreNotKnown();
        undoneIsNotKnown();
        undo();
        undoOfEach();
        comes();
        hub();
        Check.end();
    }

    // ---- COMES

    private static void comesToItself() {
        Check.sentence("COMES: a NODE comes to itself, and where EDGES lead, one behind the other.");
        for (int n : new int[] {1, 4, 12}) {
            ReachLabels x = Check.told("n" + n + ";");
            for (int u = 0; u < n; u++) {
                Check.due("comes(u, u)", x.comes(u, u), 1);
                Check.due("node(u, 5)", x.node(u, 5), 1 << u);
                Check.due("node(u, 6)", x.node(u, 6), 1 << u);
                if (u > 0) Check.due("comes(u, 0)", x.comes(u, 0), 0);
            }
        }
    }

    private static void comesWhereEdgesLead() {
        Check.sentence("where EDGES lead, one behind the other.");
        ReachLabels x = Check.row(12);
        Check.due("comes(0, 11)", x.comes(0, 11), 1);
        Check.due("comes(11, 0)", x.comes(11, 0), 0);
        Check.due("node(0, 5)", x.node(0, 5), ALL12);
        Check.due("node(11, 6)", x.node(11, 6), ALL12);
        Check.due("node(11, 5)", x.node(11, 5), 1 << 11);
        Check.due("node(0, 6)", x.node(0, 6), 1);
        x.cuts(5, 6);
        Check.due("comes(0, 11) without one", x.comes(0, 11), 0);
        Check.due("comes(0, 5) without one", x.comes(0, 5), 1);
        Check.due("comes(6, 11) without one", x.comes(6, 11), 1);
    }

    // ---- RINGS

    private static void ringsAlone() {
        Check.sentence("(a NODE perhaps alone)");
        ReachLabels x = Check.row(12);
        Check.due("now(1)", x.now(1), 12);
        for (int u = 0; u < 12; u++) {
            Check.due("node(u, 0)", x.node(u, 0), u);
            Check.due("node(u, 1)", x.node(u, 1), 1 << u);
        }
    }

    private static void ringOfAll() {
        Check.sentence("RINGS: NODES of which each comes to each other one are one RING");
        ReachLabels x = Check.ring(12);
        Check.due("now(1)", x.now(1), 1);
        for (int u = 0; u < 12; u++) {
            Check.due("node(u, 0)", x.node(u, 0), 0);
            Check.due("node(u, 1)", x.node(u, 1), ALL12);
            Check.due("node(u, 3)", x.node(u, 3), 1);
            Check.due("node(u, 4)", x.node(u, 4), 1);
        }
        x.cuts(11, 0);
        Check.due("now(1) without one", x.now(1), 12);
    }

    private static void nameIsTheLowestNode() {
        Check.sentence("its NAME is its lowest NODE");
        ReachLabels x = Check.told("n12;e11 10;e10 11;r11;r10;");
        Check.due("node(11, 0)", x.node(11, 0), 10);
        Check.due("node(11, 1)", x.node(11, 1), 3072);
        Check.due("node(11, 3)", x.node(11, 3), 1024);
        Check.due("node(11, 4)", x.node(11, 4), 1024);
        Check.due("hub(11, 11)", x.hub(11, 11), 10);
    }

    private static void rankIsTheLowestOfItsNodes() {
        Check.sentence("its RANK the lowest of its NODES");
        // 1 and 3 are a RING of RANK 0 by 3 alone; 0 of RANK 1 leads to it, it leads to 2 of RANK 3.
        ReachLabels x = Check.told("e1 3;e3 1;e0 1;e3 2;r3;r0;r1;");
        Check.due("RANKS of NODES", Check.ranksOf(x), "1 2 3 0");
        Check.due("IN of 1", x.node(1, 3), 2);
        Check.due("OUT of 0", x.node(0, 4), 3);
        Check.due("IN of 2", x.node(2, 3), 6);
        Check.due("hub(0, 2)", x.hub(0, 2), 1);
    }

    // ---- LABELS

    private static void inUpTheRow() {
        Check.sentence("LABELS: a RING H is in IN of a RING C, if H comes to C");
        ReachLabels x = Check.row(12);
        for (int c = 0; c < 12; c++) {
            Check.due("node(c, 3)", x.node(c, 3), (2 << c) - 1);
            Check.due("node(c, 4)", x.node(c, 4), 1 << c);
        }
        Check.due("now(2)", x.now(2), 90);
    }

    private static void outDownTheRow() {
        Check.sentence("H is in OUT of C, if C comes to H");
        ReachLabels x = Check.told("n12;");
        for (int u = 11; u > 0; u--) x.adds(u, u - 1);
        for (int c = 0; c < 12; c++) {
            Check.due("node(c, 3)", x.node(c, 3), 1 << c);
            Check.due("node(c, 4)", x.node(c, 4), (2 << c) - 1);
        }
        Check.due("now(2)", x.now(2), 90);
    }

    private static void noLabelBehindALowerOne() {
        Check.sentence("there is no other RING G of a RANK lower than H's to which H comes, and which comes to C.");
        // C itself may be that G; a lower one that lies elsewhere is not.
        ReachLabels x = Check.told("n4;e1 0;e1 2;e2 3;");
        Check.due("IN of 0: C is lower", x.node(0, 3), 1);
        Check.due("IN of 2: 0 is lower, but does not come there", x.node(2, 3), 6);
        Check.due("IN of 3", x.node(3, 3), 14);
        Check.sentence("there is no other one G of a RANK lower than H's to which C comes, and which comes to H.");
        Check.due("OUT of 1: C is lower than 2, 3", x.node(1, 4), 3);
        Check.due("OUT of 2: C is lower than 3", x.node(2, 4), 4);
        ReachLabels middle = Check.told("n3;e0 1;e1 2;r1;");
        Check.due("IN of 2 without 0, behind 1", middle.node(2, 3), 6);
        Check.due("OUT of 0 without 2, behind 1", middle.node(0, 4), 3);
    }

    private static void labelsTellWhoComes() {
        Check.sentence("one comes to another one just if OUT of the one and IN of the other have a RING together.");
        ReachLabels x = Check.told("n7;e0 1;e1 2;e2 0;e2 3;e3 4;e5 3;e5 6;e6 5;r4;r6;");
        for (int u = 0; u < 7; u++) {
            for (int v = 0; v < 7; v++) {
                int together = (x.node(u, 4) & x.node(v, 3)) != 0 ? 1 : 0;
                Check.due("comes(" + u + ", " + v + ")", x.comes(u, v), together);
                Check.due("node(" + u + ", 5) of " + v, x.node(u, 5) >> v & 1, together);
            }
        }
    }

    private static void hubOfLowestRank() {
        Check.sentence("HUB of two NODES: of those RINGS the one of the lowest RANK.");
        // 1 and 2 lie side by side between 0 and 3, both in OUT of 0 and IN of 3.
        ReachLabels x = Check.told("e0 1;e0 2;e1 3;e2 3;r2;r1;r0;r3;");
        Check.due("OUT of 0", x.node(0, 4), 7);
        Check.due("IN of 3", x.node(3, 3), 14);
        Check.due("hub(0, 3)", x.hub(0, 3), 2);
        ReachLabels y = Check.told("e0 1;e0 2;e1 3;e2 3;r1;r2;r0;r3;");
        Check.due("hub(0, 3) by other RANKS", y.hub(0, 3), 1);
    }

    // ---- RANKED anew

    private static void rankedAnewWithOneMore() {
        Check.sentence("by (how many EDGES lead out, and 1) times (how many lead in, and 1), the greatest first");
        // 1 has 1 x 4, 2 has 2 x 1, 3 has 3 x 1, 4 has 2 x 1, 0 has 1 x 1, 5 has 1 x 2.
        ReachLabels x = Check.told("n6;e2 1;e3 1;e4 1;e3 5;");
        x.ranks();
        Check.due("RANKS", Check.ranksOf(x), "5 0 2 1 3 4");
        // 0 has 1 x 5, 1 has 2 x 3: a sum of both would put 0 first.
        ReachLabels y = Check.told("n7;e1 0;e2 0;e3 0;e4 0;e5 1;e6 1;");
        y.ranks();
        Check.due("RANKS", Check.ranksOf(y), "1 0 2 3 4 5 6");
    }

    private static void rankedAnewOfLikeOnes() {
        Check.sentence("of like ones the lowest NODE.");
        ReachLabels x = Check.told("n12;r11;r5;r10;");
        x.ranks();
        Check.due("RANKS of no EDGES", Check.ranksOf(x), "0 1 2 3 4 5 6 7 8 9 10 11");
        ReachLabels y = Check.told("n5;e3 4;r4;r3;");
        y.ranks();
        Check.due("RANKS", Check.ranksOf(y), "2 3 4 0 1");
    }

    private static void rankedAnewGreatest() {
        Check.sentence("the greatest first");
        ReachLabels x = Check.complete(12);
        x.cuts(0, 11);
        Check.due("ranks()", x.ranks(), 2);
        Check.due("144 ahead of 132", Check.ranksOf(x), "10 0 1 2 3 4 5 6 7 8 9 11");
    }

    // ---- promises 5 to 7

    private static void node() {
        Check.sentence("5 to which NODES it comes (bits), 6 which come to it (bits). BAD.");
        ReachLabels x = new ReachLabels();
        Check.bounds("what", 0, 6, what -> x.node(0, what));
        Check.bounds("what of the last NODE", 0, 6, what -> x.node(3, what));
        Check.bounds("u", 0, 3, u -> x.node(u, 0));
        Check.bounds("u, its RANK", 0, 3, u -> x.node(u, 2));
        Check.due("node(4, 7)", x.node(4, 7), BAD);
    }

    private static void edge() {
        Check.sentence("Whether there is an EDGE: 1, 0. BAD (the same NODE, too).");
        ReachLabels x = Check.told("e0 3;e3 1;");
        Check.bounds("edge(u, 3)", 0, 2, u -> x.edge(u, 3));
        Check.bounds("edge(3, v)", 0, 2, v -> x.edge(3, v));
        for (int u = 0; u < 4; u++) Check.due("edge(u, u)", x.edge(u, u), BAD);
        Check.due("edge(0, 3)", x.edge(0, 3), 1);
        Check.due("edge(3, 0)", x.edge(3, 0), 0);
        Check.due("edge(4, 4)", x.edge(4, 4), BAD);
    }

    private static void now() {
        Check.sentence("7 how many may be UNDONE. BAD.");
        ReachLabels x = new ReachLabels();
        Check.bounds("now", 0, 7, x::now);
        x.ranks();
        Check.due("now(7)", x.now(7), 1);
    }

    private static void nowOfOneNode() {
        Check.sentence("5 LONE, 6 CHAIN");
        ReachLabels x = Check.told("n1;");
        int[] want = {0, 1, 2, 0, 0, 0, 1, 0};
        for (int what = 0; what <= 7; what++) Check.due("now(" + what + ")", x.now(what), want[what]);
    }

    private static void nowOfAllEdges() {
        Check.sentence("0 EDGES, 1 RINGS, 2 LABELS (all in IN, OUT of RINGS), 3 PAIRS, 4 SPARE EDGES");
        int[] all = {132, 1, 2, 132, 132, 0, 1, 10};
        ReachLabels x = Check.complete(12);
        for (int what = 0; what <= 7; what++) Check.due("all, now(" + what + ")", x.now(what), all[what]);
        int[] none = {0, 12, 24, 0, 0, 12, 1, 0};
        ReachLabels y = Check.told("n12;");
        for (int what = 0; what <= 7; what++) Check.due("none, now(" + what + ")", y.now(what), none[what]);
        ReachLabels two = Check.told("n4;e0 1;e1 0;");
        Check.due("LABELS of a RING count once", two.now(2), 6);
    }

    // ---- promises 8 to 11

    private static void adds() {
        Check.sentence("ADDED: LABELS then. BAD (the same NODE, too); STATE: it is there.");
        for (int u : Check.outside(0, 3)) {
            ReachLabels x = new ReachLabels();
            Check.due("adds(" + u + ", 3)", x.adds(u, 3), BAD);
            Check.due("adds(3, " + u + ")", x.adds(3, u), BAD);
            Check.due("adds(u, u)", x.adds(u, u), BAD);
            Check.due("now(0)", x.now(0), 0);
            Check.due("now(7)", x.now(7), 0);
        }
        ReachLabels x = new ReachLabels();
        for (int u = 0; u < 4; u++) Check.due("adds(u, u)", x.adds(u, u), BAD);
        Check.due("adds(0, 3)", x.adds(0, 3), 9);
        Check.due("adds(0, 3) again", x.adds(0, 3), STATE);
        Check.due("adds(3, 0)", x.adds(3, 0), 6);
        Check.due("now(0)", x.now(0), 2);
        Check.due("now(7)", x.now(7), 2);
        Check.due("of one NODE", Check.told("n1;").adds(0, 0), BAD);
    }

    private static void addsAll() {
        Check.sentence("STATE: it is there.");
        ReachLabels x = Check.complete(12);
        for (int u = 0; u < 12; u++) {
            for (int v = 0; v < 12; v++) Check.due("adds", x.adds(u, v), u == v ? BAD : STATE);
        }
        Check.due("now(0)", x.now(0), 132);
    }

    private static void cuts() {
        Check.sentence("CUT: LABELS then. BAD (the same NODE, too); STATE: it is not there.");
        ReachLabels x = Check.told("e0 3;e3 0;");
        for (int u : Check.outside(0, 3)) {
            Check.due("cuts(" + u + ", 3)", x.cuts(u, 3), BAD);
            Check.due("cuts(3, " + u + ")", x.cuts(3, u), BAD);
            Check.due("cuts(u, u)", x.cuts(u, u), BAD);
        }
        for (int u = 0; u < 4; u++) Check.due("cuts(u, u)", x.cuts(u, u), BAD);
        Check.due("cuts(1, 3)", x.cuts(1, 3), STATE);
        Check.due("now(7)", x.now(7), 0);
        Check.due("cuts(3, 0)", x.cuts(3, 0), 9);
        Check.due("cuts(3, 0) again", x.cuts(3, 0), STATE);
        Check.due("cuts(0, 3)", x.cuts(0, 3), 8);
        Check.due("now(0)", x.now(0), 0);
        Check.due("of one NODE", Check.told("n1;").cuts(0, 0), BAD);
    }

    private static void cutsAll() {
        Check.sentence("STATE: it is not there.");
        ReachLabels x = Check.complete(12);
        int labels = 0;
        for (int u = 0; u < 12; u++) for (int v = 0; v < 12; v++) if (u != v) labels = x.cuts(u, v);
        Check.due("the last cuts()", labels, 24);
        Check.due("now(0)", x.now(0), 0);
        for (int u = 0; u < 12; u++) Check.due("cuts", x.cuts(u, (u + 1) % 12), STATE);
    }

    private static void ranks() {
        Check.sentence("RANKED anew: LABELS then.");
        ReachLabels one = Check.told("n1;");
        Check.due("of one NODE", one.ranks(), 2);
        Check.due("now(7)", one.now(7), 1);
        Check.due("of no EDGES", Check.told("n12;").ranks(), 24);
        ReachLabels star = Check.told("n5;e0 4;e1 4;e4 2;e4 3;");
        Check.due("before", star.now(2), 18);
        Check.due("the middle first", star.ranks(), 14);
        Check.due("now(2)", star.now(2), 14);
        Check.due("ranks() again, of no change", star.ranks(), 14);
        Check.due("that may be UNDONE too", star.now(7), 2);
    }

    private static void tenAreKnown() {
        Check.sentence("(10 are known, older ones are lost)");
        ReachLabels x = Check.told("n12;");
        for (int i = 1; i <= 11; i++) {
            x.adds(i, 0);
            Check.due("now(7) behind " + i, x.now(7), Math.min(i, 10));
        }
        for (int left = 9; left >= 0; left--) {
            Check.due("undo()", x.undo(), left);
            Check.due("now(7)", x.now(7), left);
            Check.due("now(0)", x.now(0), left + 1);
        }
        Check.due("undo() of none", x.undo(), STATE);
        Check.due("the first can't be UNDONE", x.edge(1, 0), 1);
        ReachLabels ten = Check.told("n12;");
        for (int i = 1; i <= 10; i++) ten.adds(i, 0);
        for (int i = 1; i <= 10; i++) ten.undo();
        Check.due("of 10 each is", ten.now(0), 0);
    }

    private static void olderAreLost() {
        Check.sentence("older ones are lost");
        ReachLabels x = Check.told("n12;");
        for (int i = 1; i <= 11; i++) x.adds(0, i);
        for (int i = 1; i <= 11; i++) x.adds(1, i == 1 ? 0 : i);
        for (int i = 0; i < 3; i++) x.undo();
        Check.due("now(7)", x.now(7), 7);
        for (int i = 0; i < 5; i++) x.adds(2, i < 2 ? i : i + 1);
        Check.due("now(7)", x.now(7), 10);
        int undone = 0;
        while (undone < 20 && x.undo() >= 0) undone++;
        Check.due("how many could be", undone, 10);
        Check.due("now(0)", x.now(0), 14);
        Check.due("edge(1, 3)", x.edge(1, 3), 1);
        Check.due("edge(1, 4)", x.edge(1, 4), 0);
    }

    private static void refusedAreNotKnown() {
        Check.sentence("UNDONE: the latest adds(), cuts(), ranks() that was not refused");
        ReachLabels x = new ReachLabels();
        x.adds(0, 1);
        x.adds(1, 1);
        x.adds(0, 1);
        x.adds(0, 4);
        x.cuts(1, 0);
        x.cuts(2, 2);
        x.cuts(-1, 0);
        x.gain(1, 0);
        x.loss(0, 1, 1);
        x.best(0);
        x.keep(0);
        x.sees(0, 1, 1);
        x.forget();
        Check.due("now(7)", x.now(7), 1);
        Check.due("undo()", x.undo(), 0);
        Check.due("now(0)", x.now(0), 0);
    }

    private static void undoneIsNotKnown() {
        Check.sentence("UNDONE: how many more may be. STATE: none.");
        ReachLabels x = new ReachLabels();
        x.adds(0, 1);
        x.adds(1, 2);
        Check.due("undo()", x.undo(), 1);
        Check.due("undo() of the one before, not of undo()", x.undo(), 0);
        Check.due("now(0)", x.now(0), 0);
        Check.due("undo()", x.undo(), STATE);
        Check.due("undo() again", x.undo(), STATE);
        Check.due("now(7)", x.now(7), 0);
        x.adds(2, 3);
        Check.due("one is known again", x.now(7), 1);
        Check.due("undo()", x.undo(), 0);
    }

    private static void undo() {
        Check.sentence("STATE: none.");
        Check.due("of a new one", new ReachLabels().undo(), STATE);
        ReachLabels x = Check.told("e0 1;e1 2;");
        Check.due("what a text told", x.undo(), STATE);
        Check.due("now(0)", x.now(0), 2);
        x.adds(2, 3);
        Check.typeAll(x, "e0 1;");
        x.graph();
        Check.due("behind graph()", x.undo(), STATE);
        Check.due("now(0)", x.now(0), 1);
    }

    private static void undoOfEach() {
        Check.sentence("`int undo()`: UNDONE");
        ReachLabels x = Check.told("n5;e3 4;r2;");
        x.sees(0, 1, 0);
        x.type('n');
        x.cuts(3, 4);
        Check.due("undo() of cuts()", x.undo(), 0);
        Check.due("edge(3, 4)", x.edge(3, 4), 1);
        Check.due("comes(3, 4)", x.comes(3, 4), 1);
        x.ranks();
        Check.due("RANKS", Check.ranksOf(x), "2 3 4 0 1");
        Check.due("undo() of ranks()", x.undo(), 0);
        Check.due("RANKS", Check.ranksOf(x), "1 2 0 3 4");
        Check.due("now(2)", x.now(2), 11);
        x.adds(4, 3);
        Check.due("undo() of adds()", x.undo(), 0);
        Check.due("now(1)", x.now(1), 5);
        Check.due("SEEN stays", x.count(1), 1);
        Check.due("THE TEXT stays", x.count(2), 1);
    }

    // ---- promises 12 and 13

    private static void comes() {
        Check.sentence("Whether a NODE comes to another one (or itself): 1, 0. BAD.");
        for (int n : new int[] {1, 4, 12}) {
            ReachLabels x = Check.row(n);
            Check.bounds("comes(u, 0)", 0, n - 1, u -> x.comes(u, 0));
            Check.bounds("comes(0, v)", 0, n - 1, v -> x.comes(0, v));
            Check.due("comes(0, 0)", x.comes(0, 0), 1);
            Check.due("comes(0, last)", x.comes(0, n - 1), 1);
        }
    }

    private static void hub() {
        Check.sentence("HUB (its NAME); NONE. BAD.");
        for (int n : new int[] {1, 4, 12}) {
            ReachLabels x = Check.row(n);
            Check.bounds("hub(u, 0)", 0, n - 1, u -> x.hub(u, 0));
            Check.bounds("hub(0, v)", 0, n - 1, v -> x.hub(0, v));
            for (int u = 0; u < n; u++) Check.due("hub(u, u)", x.hub(u, u), u);
            if (n > 1) Check.due("hub(last, 0)", x.hub(n - 1, 0), NONE);
            Check.due("hub(0, last)", x.hub(0, n - 1), 0);
        }
    }
}
