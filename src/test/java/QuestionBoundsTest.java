/** The boundaries of 'Terms' 3 and of promises 14 to 26: ways, EDGES more or fewer, what was SEEN, ODDS, IMAGES. */
public final class QuestionBoundsTest {
    private static final int BAD = Check.BAD, STATE = Check.STATE, FULL = Check.FULL, NONE = Check.NONE;
    private static final int ALL12 = 4095;

    public static void main(String[] args) {
        nothingIsChanged();
        wayOfFewest();
        wayTheFirst();
        wayToItself();
        wayOfAll();
        wayNone();
        wayBad();
        someAndEveryHaveBothEnds();
        onToItself();
        onNowhere();
        onBad();
        pairs();
        spare();
        lossOfAnEdge();
        lossBad();
        gainOfTwo();
        gainBad();
        bestOfSeveral();
        bestOfGainNought();
        bestNone();
        loneNought();
        loneGreater();
        chain();
        oddsNeverAndAlways();
        oddsOfNine();
        oddsToItself();
        oddsOfTen();
        oddsLeastTerms();
        oddsBad();
        seenSix();
        seesBad();
        seesAnswers();
        forget();
        unseenAll();
        unseenFits();
        unseenNone();
        askOfTwo();
        askNone();
        nextAnswers();
        askOfNoUse();
        imagesAreTwo();
        imagesKeepEdgesAndRanks();
        imagesKeepNothingElse();
        imageAnew();
        backState();
        count();
        Check.end();
    }

    private static String row(String nodes) {
        return nodes + "e0 1;e1 2;e2 3;e3 4;e4 5;e5 6;e6 7;e7 8;e8 9;";
    }

    private static void nothingIsChanged() {
        Check.sentence("(As things are NOW; nothing is changed.)");
        ReachLabels x = Check.told("e0 1;e1 2;r2;");
        x.way(0, 2, 1);
        x.on(0, 2, 1);
        x.loss(0, 1, 1);
        x.gain(2, 0);
        x.best(0);
        x.odds(3, 0, 2, 0);
        x.unseen(0);
        x.next();
        Check.due("now(0)", x.now(0), 2);
        Check.due("now(3)", x.now(3), 3);
        Check.due("now(7)", x.now(7), 0);
        Check.due("RANKS", Check.ranksOf(x), "1 2 0 3");
        Check.due("count(1)", x.count(1), 0);
    }

    // ---- WAY

    private static void wayOfFewest() {
        Check.sentence("WAY from a NODE to another one: of fewest EDGES");
        ReachLabels x = Check.told("e0 1;e1 2;e2 3;e0 3;");
        Check.due("way(0, 3, -1)", x.way(0, 3, -1), 1);
        Check.due("way(0, 3, 0)", x.way(0, 3, 0), 0);
        Check.due("way(0, 3, 1)", x.way(0, 3, 1), 3);
        Check.due("way(0, 3, 2)", x.way(0, 3, 2), NONE);
        x.cuts(0, 3);
        Check.due("way(0, 3, -1)", x.way(0, 3, -1), 3);
    }

    private static void wayTheFirst() {
        Check.sentence("of several the first (by its second NODE, the lowest, then the third ..)");
        // 0 1 5 6 and 0 2 3 6, 0 2 4 6: by its second NODE the first, though its third is greater.
        ReachLabels x = Check.told("n7;e0 2;e0 1;e2 4;e2 3;e1 5;e3 6;e4 6;e5 6;");
        int[] want = {0, 1, 5, 6};
        for (int k = 0; k < 4; k++) Check.due("way(0, 6, k)", x.way(0, 6, k), want[k]);
        Check.due("way(2, 6, 1)", x.way(2, 6, 1), 3);
        x.cuts(0, 1);
        int[] then = {0, 2, 3, 6};
        for (int k = 0; k < 4; k++) Check.due("way(0, 6, k) then", x.way(0, 6, k), then[k]);
    }

    private static void wayToItself() {
        Check.sentence("how many EDGES; its k-th NODE (0: the first).");
        for (int u = 0; u < 4; u++) {
            ReachLabels x = Check.ring(4);
            Check.due("way(u, u, -1)", x.way(u, u, -1), 0);
            Check.due("way(u, u, 0)", x.way(u, u, 0), u);
            Check.due("way(u, u, 1)", x.way(u, u, 1), NONE);
        }
        ReachLabels one = Check.told("n1;");
        Check.due("way(0, 0, -1) of one", one.way(0, 0, -1), 0);
        Check.due("way(0, 0, 0) of one", one.way(0, 0, 0), 0);
        Check.due("way(0, 0, 1) of one", one.way(0, 0, 1), NONE);
    }

    private static void wayOfAll() {
        Check.sentence("how many EDGES (k = -1), the k-th NODE");
        ReachLabels x = Check.ring(12);
        for (int u = 0; u < 12; u++) {
            int last = (u + 11) % 12;
            Check.due("way(u, last, -1)", x.way(u, last, -1), 11);
            for (int k = 0; k <= 11; k++) Check.due("way(u, last, k)", x.way(u, last, k), (u + k) % 12);
            Check.due("way(u, last, 12)", x.way(u, last, 12), NONE);
        }
    }

    private static void wayNone() {
        Check.sentence("NONE (it does not come there, there are not so many). BAD.");
        ReachLabels x = Check.row(12);
        for (int k = -1; k <= 13; k++) Check.due("way(11, 0, " + k + ")", x.way(11, 0, k), NONE);
        for (int k : new int[] {2, 3, 11, 12, 13, 31, 32, 33, 64, 256, 65536, Check.MAX - 1, Check.MAX}) {
            Check.due("way(0, 1, " + k + ")", x.way(0, 1, k), NONE);
            Check.due("way(1, 0, " + k + ")", x.way(1, 0, k), NONE);
        }
        Check.due("way(0, 1, 1)", x.way(0, 1, 1), 1);
    }

    private static void wayBad() {
        Check.sentence("`int way(int u, int v, int k)`: WAY");
        ReachLabels x = Check.ring(4);
        for (int k : new int[] {-2, -3, -32, -256, Check.MIN + 1, Check.MIN}) {
            Check.due("way(0, 1, " + k + ")", x.way(0, 1, k), BAD);
            Check.due("way of none, " + k, Check.told("").way(0, 1, k), BAD);
        }
        Check.bounds("way(u, 0, -1)", 0, 3, u -> x.way(u, 0, -1));
        Check.bounds("way(0, v, 0)", 0, 3, v -> x.way(0, v, 0));
        Check.due("way(4, 4, 9)", x.way(4, 4, 9), BAD);
    }

    // ---- SOME, EVERY

    private static void someAndEveryHaveBothEnds() {
        Check.sentence("SOME, EVERY: NODES (both ends, too) that lie on some walk from the one to the other, on each.");
        ReachLabels x = Check.told("n6;e0 1;e0 2;e1 3;e2 3;e3 4;e0 5;");
        Check.due("on(0, 4, 0)", x.on(0, 4, 0), 0b011111);
        Check.due("on(0, 4, 1)", x.on(0, 4, 1), 0b011001);
        Check.due("on(0, 3, 1)", x.on(0, 3, 1), 0b001001);
        Check.due("on(0, 5, 0)", x.on(0, 5, 0), 0b100001);
        Check.due("on(0, 5, 1)", x.on(0, 5, 1), 0b100001);
        ReachLabels low = Check.told("e3 0;e0 1;");
        Check.due("on(3, 1, 0), by 0", low.on(3, 1, 0), 0b1011);
        Check.due("on(3, 1, 1), by 0", low.on(3, 1, 1), 0b1011);
        ReachLabels far = Check.row(12);
        Check.due("on(0, 11, 0)", far.on(0, 11, 0), ALL12);
        Check.due("on(0, 11, 1)", far.on(0, 11, 1), ALL12);
        // A walk may go beyond both ends, if it comes back.
        ReachLabels round = Check.ring(12);
        Check.due("on(0, 1, 0) of a RING", round.on(0, 1, 0), ALL12);
        Check.due("on(0, 1, 1) of a RING", round.on(0, 1, 1), 3);
        Check.due("on(1, 0, 1) of a RING", round.on(1, 0, 1), ALL12);
        ReachLabels all = Check.complete(12);
        Check.due("on(11, 10, 1) of all EDGES", all.on(11, 10, 1), 3072);
    }

    private static void onToItself() {
        Check.sentence("that lie on some walk from the one to the other");
        ReachLabels x = Check.told("n4;e0 1;e1 0;e1 2;");
        Check.due("on(0, 0, 0)", x.on(0, 0, 0), 3);
        Check.due("on(0, 0, 1)", x.on(0, 0, 1), 1);
        Check.due("on(3, 3, 0)", x.on(3, 3, 0), 8);
        Check.due("on(3, 3, 1)", x.on(3, 3, 1), 8);
        ReachLabels one = Check.told("n1;");
        Check.due("on(0, 0, 0) of one", one.on(0, 0, 0), 1);
        Check.due("on(0, 0, 1) of one", one.on(0, 0, 1), 1);
    }

    private static void onNowhere() {
        Check.sentence("SOME (what = 0), EVERY (1), bits; 0: it does not come there. BAD.");
        ReachLabels x = Check.row(12);
        for (int what = 0; what <= 1; what++) {
            Check.due("on(11, 0, what)", x.on(11, 0, what), 0);
            Check.due("on(1, 0, what)", x.on(1, 0, what), 0);
        }
    }

    private static void onBad() {
        Check.sentence("`int on(int u, int v, int what)`: SOME (what = 0), EVERY (1), bits");
        ReachLabels x = Check.ring(4);
        Check.bounds("on(0, 1, what)", 0, 1, what -> x.on(0, 1, what));
        Check.bounds("on(u, 0, 0)", 0, 3, u -> x.on(u, 0, 0));
        Check.bounds("on(0, v, 1)", 0, 3, v -> x.on(0, v, 1));
        ReachLabels none = new ReachLabels();
        Check.bounds("on(0, 1, what) of none", 0, 1, what -> none.on(0, 1, what));
    }

    // ---- PAIRS, SPARE, LOSS

    private static void pairs() {
        Check.sentence("PAIRS: of two unlike NODES, the one, the other, how many so that the one comes to the other.");
        Check.due("none", Check.told("n12;").now(3), 0);
        Check.due("one NODE", Check.told("n1;").now(3), 0);
        Check.due("one EDGE", Check.told("e0 1;").now(3), 1);
        Check.due("both ways", Check.told("e0 1;e1 0;").now(3), 2);
        Check.due("a row", Check.row(12).now(3), 66);
        Check.due("a RING of all", Check.ring(12).now(3), 132);
    }

    private static void spare() {
        Check.sentence("SPARE: an EDGE without which each NODE comes where it does.");
        ReachLabels x = Check.told("e0 1;e1 2;e0 2;e2 0;");
        Check.due("loss(0, 2, 0)", x.loss(0, 2, 0), 1);
        Check.due("loss(0, 1, 0)", x.loss(0, 1, 0), 0);
        Check.due("loss(1, 2, 0)", x.loss(1, 2, 0), 0);
        Check.due("loss(2, 0, 0)", x.loss(2, 0, 0), 0);
        Check.due("now(4)", x.now(4), 1);
        Check.due("none of a row", Check.row(12).now(4), 0);
        Check.due("none of a RING", Check.ring(12).now(4), 0);
        Check.due("each of all", Check.complete(12).now(4), 132);
        // 0 comes to 3 by either way, but 1 and 2 hang by one EDGE on each side.
        Check.due("none of two ways", Check.told("e0 1;e0 2;e1 3;e2 3;").now(4), 0);
    }

    private static void lossOfAnEdge() {
        Check.sentence("LOSS of an EDGE: how many PAIRS fewer, were it CUT");
        Check.due("a SPARE one", Check.complete(12).loss(11, 10, 1), 0);
        Check.due("the middle of a row", Check.row(12).loss(5, 6, 1), 36);
        Check.due("the end of a row", Check.row(12).loss(10, 11, 1), 11);
        Check.due("of a RING", Check.ring(12).loss(11, 0, 1), 66);
        ReachLabels two = Check.told("n2;e1 0;");
        Check.due("of two NODES", two.loss(1, 0, 1), 1);
        Check.due("it is there still", two.edge(1, 0), 1);
    }

    private static void lossBad() {
        Check.sentence("0 whether it is SPARE (1, 0), 1 LOSS. BAD (the same NODE, too); STATE: it is not there.");
        ReachLabels x = Check.complete(4);
        Check.bounds("loss(0, 1, what)", 0, 1, what -> x.loss(0, 1, what));
        Check.bounds("loss(u, 3, 0)", 0, 2, u -> x.loss(u, 3, 0));
        Check.bounds("loss(3, v, 1)", 0, 2, v -> x.loss(3, v, 1));
        for (int u = 0; u < 4; u++) Check.due("loss(u, u, 0)", x.loss(u, u, 0), BAD);
        ReachLabels none = new ReachLabels();
        Check.due("not there", none.loss(0, 1, 0), STATE);
        Check.due("not there", none.loss(0, 1, 1), STATE);
        Check.bounds("loss(0, 1, what) not there", 0, 1, what -> none.loss(0, 1, what));
        Check.due("the same NODE is BAD first", none.loss(0, 0, 0), BAD);
    }

    // ---- GAIN, BEST

    private static void gainOfTwo() {
        Check.sentence("GAIN of two: how many more, were it ADDED");
        ReachLabels x = Check.row(12);
        Check.due("closing a row", x.gain(11, 0), 66);
        Check.due("nothing new", x.gain(0, 11), 0);
        Check.due("one back", x.gain(1, 0), 1);
        Check.due("it is not there still", x.edge(11, 0), 0);
        Check.due("of two NODES", Check.told("n2;").gain(1, 0), 1);
        Check.due("of a RING", Check.ring(12).gain(0, 2), 0);
    }

    private static void gainBad() {
        Check.sentence("GAIN. BAD (the same NODE, too); STATE: it is there.");
        ReachLabels x = Check.told("e0 1;");
        Check.bounds("gain(u, 3)", 0, 2, u -> x.gain(u, 3));
        Check.bounds("gain(3, v)", 0, 2, v -> x.gain(3, v));
        Check.due("gain(0, 1)", x.gain(0, 1), STATE);
        Check.due("gain(1, 0)", x.gain(1, 0), 1);
        for (int u = 0; u < 4; u++) Check.due("gain(u, u)", x.gain(u, u), BAD);
        Check.due("of one NODE", Check.told("n1;").gain(0, 0), BAD);
    }

    private static void bestOfSeveral() {
        Check.sentence("of several the first (by the one, then the other): 16 times the one, and the other");
        ReachLabels none = Check.told("n12;");
        Check.due("all are alike", none.best(0), 1);
        Check.due("all are alike", none.best(1), 1);
        ReachLabels back = Check.told("n2;e0 1;");
        Check.due("1 0", back.best(0), 16);
        // 0 1 stands; 0 2, 1 2 gain: 1 2 gives two PAIRS, and so does 2 0, which comes behind.
        ReachLabels three = Check.told("n3;e0 1;");
        Check.due("1 2 ahead of 2 0", three.best(0), 18);
        Check.due("its GAIN", three.best(1), 2);
        Check.due("the greatest", Check.row(12).best(0), 16 * 11);
        Check.due("its GAIN", Check.row(12).best(1), 66);
    }

    private static void bestOfGainNought() {
        Check.sentence("BEST: the EDGE not there, of unlike NODES, of greatest GAIN");
        ReachLabels x = Check.ring(12);
        Check.due("best(0)", x.best(0), 2);
        Check.due("best(1)", x.best(1), 0);
        ReachLabels last = Check.complete(12);
        last.cuts(11, 10);
        Check.due("the last of all", last.best(0), 186);
        Check.due("its GAIN", last.best(1), 0);
        Check.due("it is not ADDED", last.edge(11, 10), 0);
    }

    private static void bestNone() {
        Check.sentence("BEST: which (what = 0), its GAIN (1); NONE. BAD.");
        for (int n : new int[] {1, 2, 12}) {
            ReachLabels x = Check.complete(n);
            Check.due("best(0) of all", x.best(0), NONE);
            Check.due("best(1) of all", x.best(1), NONE);
            for (int what : Check.outside(0, 1)) Check.due("best(" + what + ") of all", x.best(what), BAD);
        }
        ReachLabels x = new ReachLabels();
        Check.bounds("best", 0, 1, x::best);
    }

    // ---- LONE, CHAIN

    private static void loneNought() {
        Check.sentence("LONE: how few EDGES more make all one RING (0, if they are;");
        Check.due("one NODE", Check.told("n1;").now(5), 0);
        Check.due("a RING of two", Check.ring(2).now(5), 0);
        Check.due("a RING of 12", Check.ring(12).now(5), 0);
        ReachLabels x = Check.ring(12);
        x.cuts(3, 4);
        Check.due("a row", x.now(5), 1);
    }

    private static void loneGreater() {
        Check.sentence("RINGS to which no other one comes, or which come to no other, of both the greater number");
        Check.due("no EDGES", Check.told("n12;").now(5), 12);
        Check.due("three ends", Check.told("e0 1;e0 2;e0 3;").now(5), 3);
        Check.due("three starts", Check.told("e1 0;e2 0;e3 0;").now(5), 3);
        Check.due("one alone counts for both", Check.told("e0 1;e1 2;").now(5), 2);
        Check.due("two RINGS apart", Check.told("e0 1;e1 0;e2 3;e3 2;").now(5), 2);
        Check.due("two RINGS in a row", Check.told("e0 1;e1 0;e2 3;e3 2;e0 2;").now(5), 1);
    }

    private static void chain() {
        Check.sentence("CHAIN: the most RINGS one behind the other, each coming to the next.");
        Check.due("one NODE", Check.told("n1;").now(6), 1);
        Check.due("no EDGES", Check.told("n12;").now(6), 1);
        Check.due("a RING of all", Check.ring(12).now(6), 1);
        Check.due("a row", Check.row(12).now(6), 12);
        Check.due("a row told backward", Check.told("e3 2;e2 1;e1 0;").now(6), 4);
        Check.due("a RING in a row", Check.told("n5;e0 1;e1 2;e2 1;e2 3;e3 4;").now(6), 4);
        Check.due("the longer one", Check.told("n5;e0 1;e2 3;e3 4;e2 4;").now(6), 3);
        ReachLabels x = Check.row(12);
        for (int i = 0; i < 3; i++) Check.due("asked again", x.now(6), 12);
        x.adds(11, 0);
        Check.due("a RING of it", x.now(6), 1);
    }

    // ---- ODDS

    private static void odds(ReachLabels x, int tenths, int u, int v, int upper, int lower) {
        String call = "odds(" + tenths + ", " + u + ", " + v + ", ";
        Check.due(call + "0)", x.odds(tenths, u, v, 0), upper);
        Check.due(call + "1)", x.odds(tenths, u, v, 1), lower);
    }

    private static void oddsNeverAndAlways() {
        Check.sentence("ODDS by x (0 .. 10): each EDGE fails by x of 10, for itself: that a NODE comes to another one");
        ReachLabels x = Check.told("e0 1;e1 2;");
        odds(x, 0, 0, 2, 1, 1);
        odds(x, 10, 0, 2, 0, 1);
        odds(x, 0, 2, 0, 0, 1);
        odds(x, 10, 2, 0, 0, 1);
        odds(x, 5, 2, 0, 0, 1);
        odds(x, 10, 1, 1, 1, 1);
        odds(x, 0, 3, 3, 1, 1);
        odds(x, 1, 0, 2, 81, 100);
        odds(x, 9, 0, 2, 1, 100);
        odds(Check.told("n1;"), 10, 0, 0, 1, 1);
    }

    private static void oddsOfNine() {
        Check.sentence("a fraction (no more than 9 EDGES)");
        ReachLabels x = Check.told(row("n10;"));
        Check.due("now(0)", x.now(0), 9);
        odds(x, 1, 0, 9, 387420489, 1000000000);
        odds(x, 9, 0, 9, 1, 1000000000);
        odds(x, 3, 0, 9, 40353607, 1000000000);
        odds(x, 0, 0, 9, 1, 1);
        odds(x, 10, 0, 9, 0, 1);
        odds(x, 5, 0, 9, 1, 512);
        odds(x, 5, 9, 0, 0, 1);
        ReachLabels down = Check.told("n10;e9 8;e8 7;e7 6;e6 5;e5 4;e4 3;e3 2;e2 1;e1 0;");
        odds(down, 1, 9, 0, 387420489, 1000000000);
        odds(down, 10, 9, 0, 0, 1);
        ReachLabels round = Check.ring(9);
        odds(round, 1, 1, 0, 43046721, 100000000);
        odds(round, 9, 8, 0, 1, 10);
    }

    private static void oddsToItself() {
        Check.sentence("that a NODE comes to another one: a fraction");
        ReachLabels x = Check.ring(9);
        for (int tenths = 0; tenths <= 10; tenths++) odds(x, tenths, 4, 4, 1, 1);
        odds(Check.told("n1;"), 5, 0, 0, 1, 1);
    }

    private static void oddsOfTen() {
        Check.sentence("STATE: more than 9 EDGES.");
        ReachLabels x = Check.told(row("n12;"));
        Check.taken("odds of 9", x.odds(1, 0, 1, 0));
        x.adds(10, 11);
        Check.due("of 10, though none of it matters", x.odds(1, 0, 1, 0), STATE);
        Check.due("of 10, to itself", x.odds(1, 3, 3, 1), STATE);
        Check.due("of 10, x = 0", x.odds(0, 0, 1, 1), STATE);
        Check.due("of 10, where it does not come", x.odds(0, 11, 0, 1), STATE);
        x.cuts(0, 1);
        odds(x, 1, 1, 3, 81, 100);
        Check.due("of all", Check.complete(12).odds(5, 0, 1, 0), STATE);
    }

    private static void oddsLeastTerms() {
        Check.sentence("ODDS: upper (what = 0), lower number (1), in least terms. BAD; STATE");
        ReachLabels x = Check.told("n3;e0 1;e1 2;e0 2;");
        // 1 less (1 less 1/4) times 1/2.
        odds(x, 5, 0, 2, 5, 8);
        odds(x, 2, 0, 1, 4, 5);
        odds(x, 8, 0, 1, 1, 5);
        // 1 less 51/100 times 3/10.
        odds(x, 3, 0, 2, 847, 1000);
        ReachLabels y = Check.told("e0 1;e0 2;e1 3;e2 3;");
        odds(y, 5, 0, 3, 7, 16);
    }

    private static void oddsBad() {
        Check.sentence("ODDS by x (0 .. 10)");
        ReachLabels x = Check.told("e0 1;");
        Check.bounds("odds(x, 0, 1, 0)", 0, 10, tenths -> x.odds(tenths, 0, 1, 0));
        Check.bounds("odds(1, u, 0, 0)", 0, 3, u -> x.odds(1, u, 0, 0));
        Check.bounds("odds(1, 0, v, 1)", 0, 3, v -> x.odds(1, 0, v, 1));
        Check.bounds("odds(1, 0, 1, what)", 0, 1, what -> x.odds(1, 0, 1, what));
        ReachLabels many = Check.complete(4);
        Check.bounds("x of 12 EDGES", 0, 10, tenths -> many.odds(tenths, 0, 1, 0));
        Check.bounds("u of 12 EDGES", 0, 3, u -> many.odds(1, u, 0, 0));
        Check.bounds("v of 12 EDGES", 0, 3, v -> many.odds(1, 0, v, 0));
        Check.bounds("what of 12 EDGES", 0, 1, what -> many.odds(1, 0, 1, what));
    }

    // ---- SEEN, UNSEEN, ASK

    private static void seenSix() {
        Check.sentence("SEEN (6 at most)");
        ReachLabels x = new ReachLabels();
        for (int i = 1; i <= 6; i++) Check.due("sees() " + i, x.sees(0, 1, 1), i);
        Check.due("sees() 7", x.sees(0, 1, 1), FULL);
        Check.due("sees() 8, another one", x.sees(0, 1, 0), FULL);
        Check.due("count(1)", x.count(1), 6);
        Check.due("unseen(0): the refused one is not SEEN", x.unseen(0), 1);
        Check.due("forget()", x.forget(), 6);
        Check.due("sees() behind it", x.sees(0, 1, 1), 1);
    }

    private static void seesBad() {
        Check.sentence("a NODE came to another one (1), or did not (0)");
        for (int came : Check.outside(0, 1)) {
            ReachLabels x = new ReachLabels();
            Check.due("sees(0, 1, " + came + ")", x.sees(0, 1, came), BAD);
            Check.due("count(1)", x.count(1), 0);
        }
        for (int u : Check.outside(0, 3)) {
            ReachLabels x = new ReachLabels();
            Check.due("sees(" + u + ", 0, 0)", x.sees(u, 0, 0), BAD);
            Check.due("sees(0, " + u + ", 1)", x.sees(0, u, 1), BAD);
            Check.due("count(1)", x.count(1), 0);
        }
        ReachLabels x = new ReachLabels();
        Check.due("sees(3, 0, 0)", x.sees(3, 0, 0), 1);
        Check.due("sees(0, 3, 1)", x.sees(0, 3, 1), 2);
        Check.due("sees(3, 3, 1)", x.sees(3, 3, 1), 3);
    }

    private static void seesAnswers() {
        Check.sentence("SEEN: how much there is. BAD; FULL.");
        ReachLabels x = Check.told("n1;");
        Check.due("of one NODE", x.sees(0, 0, 1), 1);
        Check.due("the same again", x.sees(0, 0, 1), 2);
        Check.due("what can't be so", x.sees(0, 0, 0), 3);
        Check.due("a refused one", x.sees(0, 1, 0), BAD);
        Check.due("behind a refused one", x.sees(0, 0, 1), 4);
        x.sees(0, 0, 1);
        Check.due("the last", x.sees(0, 0, 1), 6);
        Check.due("one too many", x.sees(0, 0, 1), FULL);
    }

    private static void forget() {
        Check.sentence("Nothing is SEEN: how much was.");
        ReachLabels x = new ReachLabels();
        Check.due("of nothing", x.forget(), 0);
        x.sees(0, 1, 1);
        Check.due("of one", x.forget(), 1);
        Check.due("again", x.forget(), 0);
        Check.due("count(1)", x.count(1), 0);
        Check.due("unseen(0)", x.unseen(0), 12);
    }

    private static void unseenAll() {
        Check.sentence("one unknown EDGE being ADDED (of unlike NODES, not there now)");
        ReachLabels x = Check.told("n12;");
        Check.due("of 12 NODES", x.unseen(0), 132);
        Check.due("the first", x.unseen(1), 1);
        ReachLabels y = Check.told("n3;e0 1;");
        Check.due("without the one that is there", y.unseen(0), 5);
        Check.due("the first", y.unseen(1), 2);
        y.adds(0, 2);
        Check.due("not there now", y.unseen(1), 16);
        y.undo();
        Check.due("not there now", y.unseen(1), 2);
        ReachLabels last = Check.complete(12);
        last.cuts(11, 10);
        Check.due("the only one", last.unseen(0), 1);
        Check.due("the only one", last.unseen(1), 186);
    }

    private static void unseenFits() {
        Check.sentence("UNSEEN: EDGES by which all that was SEEN is so");
        ReachLabels x = Check.told("n4;e0 1;e2 3;");
        x.sees(0, 3, 1);
        Check.due("0 2, 0 3, 1 2, 1 3", x.unseen(0), 4);
        x.sees(0, 2, 0);
        Check.due("0 3, 1 3", x.unseen(0), 2);
        Check.due("the first", x.unseen(1), 3);
        x.sees(1, 3, 1);
        Check.due("1 3", x.unseen(0), 1);
        Check.due("the first", x.unseen(1), 19);
        x.sees(0, 1, 1);
        x.sees(2, 2, 1);
        Check.due("what is so anyway says nothing", x.unseen(0), 1);
        x.sees(0, 1, 0);
        Check.due("the sixth can't be so", x.unseen(0), 0);
    }

    private static void unseenNone() {
        Check.sentence("UNSEEN: how many (what = 0), the first (1; NONE). BAD.");
        for (int n : new int[] {1, 2, 12}) {
            ReachLabels x = Check.complete(n);
            Check.due("unseen(0) of all", x.unseen(0), 0);
            Check.due("unseen(1) of all", x.unseen(1), NONE);
            Check.bounds("unseen of all", 0, 1, x::unseen);
        }
        ReachLabels x = new ReachLabels();
        x.sees(1, 1, 0);
        Check.due("a NODE not at itself", x.unseen(0), 0);
        Check.due("a NODE not at itself", x.unseen(1), NONE);
        ReachLabels none = new ReachLabels();
        Check.bounds("unseen", 0, 1, none::unseen);
    }

    private static void askOfTwo() {
        Check.sentence("the greater part of these is smallest, of several the first");
        Check.due("0 1 or 1 0", Check.told("n2;").next(), 1);
        ReachLabels x = Check.told("n3;e0 1;");
        // 0 2, 1 0, 1 2, 2 0, 2 1 can be; 0 comes to 2 by two of them.
        Check.due("2 of 5", x.next(), 2);
        x.sees(0, 2, 0);
        Check.due("1 of 1 0, 2 0, 2 1", x.next(), 16);
        x.sees(1, 0, 0);
        Check.due("1 of 2 0, 2 1", x.next(), 32);
        Check.due("of 12 NODES alike", Check.told("n12;").next(), 1);
    }

    private static void askNone() {
        Check.sentence("NONE (one can be at most)");
        Check.due("one NODE", Check.told("n1;").next(), NONE);
        Check.due("all are there", Check.complete(12).next(), NONE);
        Check.due("one can be", Check.told("n2;e0 1;").next(), NONE);
        ReachLabels x = Check.complete(12);
        x.cuts(11, 10);
        Check.due("one can be", x.next(), NONE);
        ReachLabels y = Check.told("n2;");
        y.sees(0, 1, 1);
        Check.due("one fits", y.next(), NONE);
        y.sees(1, 0, 1);
        Check.due("none fits", y.next(), NONE);
        y.forget();
        Check.due("two can be again", y.next(), 1);
    }

    private static void nextAnswers() {
        Check.sentence("`int next()`: ASK; NONE.");
        ReachLabels x = Check.told("n2;");
        Check.due("two can be", x.next(), 1);
        Check.due("asked again", x.next(), 1);
        x.adds(0, 1);
        Check.due("one can be now", x.next(), NONE);
        x.adds(1, 0);
        Check.due("none can be now", x.next(), NONE);
        // All but 11 10 and 11 9 are there: both are between NODES that come to one another.
        ReachLabels last = Check.complete(12);
        last.cuts(11, 10);
        last.cuts(11, 9);
        Check.due("the last two", last.next(), 1);
        Check.due("0 1 alone can be", Check.told("n2;e1 0;").next(), NONE);
    }

    private static void askOfNoUse() {
        Check.sentence("ASK: the two unlike NODES (as BEST) of which, one coming to the other or not");
        Check.due("no question parts them", Check.ring(3).next(), 1);
        Check.due("no question parts them", Check.ring(12).next(), 1);
        // 0 2, 2 0 can be, both between NODES that come to one another.
        ReachLabels x = Check.told("n3;e0 1;e1 0;e1 2;e2 1;");
        Check.due("the first of all two", x.next(), 1);
    }

    // ---- IMAGES

    private static void imagesAreTwo() {
        Check.sentence("An IMAGE is kept: EDGES. BAD.");
        ReachLabels x = Check.told("e0 1;");
        Check.bounds("keep", 0, 1, x::keep);
        Check.due("keep(0)", x.keep(0), 1);
        Check.due("keep(1)", x.keep(1), 1);
        Check.bounds("back", 0, 1, x::back);
        Check.due("keep(0) of none", new ReachLabels().keep(0), 0);
        Check.due("keep(1) of all", Check.complete(12).keep(1), 132);
    }

    private static void imagesKeepEdgesAndRanks() {
        Check.sentence("IMAGES 0, 1 keep NOW (EDGES, RANKS); nothing else");
        ReachLabels x = Check.told("n5;e0 1;r4;");
        x.keep(0);
        x.adds(3, 2);
        x.ranks();
        x.keep(1);
        x.cuts(0, 1);
        Check.due("back(0)", x.back(0), 1);
        Check.due("RANKS", Check.ranksOf(x), "1 2 3 4 0");
        Check.due("edge(3, 2)", x.edge(3, 2), 0);
        Check.due("comes(0, 1)", x.comes(0, 1), 1);
        Check.due("back(1)", x.back(1), 2);
        Check.due("RANKS", Check.ranksOf(x), "0 1 2 3 4");
        Check.due("comes(3, 2)", x.comes(3, 2), 1);
        Check.due("LABELS", x.now(2), 12);
    }

    private static void imagesKeepNothingElse() {
        Check.sentence("nothing else (nothing can be UNDONE behind back())");
        ReachLabels x = Check.told("e0 1;");
        x.adds(1, 2);
        x.keep(0);
        Check.due("keep() leaves what may be UNDONE", x.now(7), 1);
        x.sees(0, 1, 1);
        x.type('n');
        Check.due("back(0)", x.back(0), 2);
        Check.due("now(7)", x.now(7), 0);
        Check.due("undo()", x.undo(), STATE);
        Check.due("SEEN stays", x.count(1), 1);
        Check.due("THE TEXT stays", x.count(2), 1);
        x.adds(2, 3);
        Check.due("behind it one can be UNDONE again", x.undo(), 0);
        Check.due("now(0)", x.now(0), 2);
    }

    private static void imageAnew() {
        Check.sentence("All of that becomes as an IMAGE has it: EDGES.");
        ReachLabels x = Check.told("e0 1;");
        x.keep(0);
        x.adds(1, 2);
        Check.due("keep(0) anew", x.keep(0), 2);
        x.adds(2, 3);
        Check.due("back(0)", x.back(0), 2);
        x.cuts(0, 1);
        Check.due("back(0) again: it is not changed with it", x.back(0), 2);
        Check.due("edge(0, 1)", x.edge(0, 1), 1);
        x.ranks();
        x.undo();
        Check.due("nor UNDONE with it", x.back(0), 2);
        ReachLabels all = Check.complete(12);
        all.keep(1);
        for (int v = 1; v < 12; v++) all.cuts(0, v);
        Check.due("back(1) of all", all.back(1), 132);
    }

    private static void backState() {
        Check.sentence("BAD; STATE: none was kept.");
        ReachLabels x = Check.told("e0 1;");
        Check.due("back(0)", x.back(0), STATE);
        Check.due("back(1)", x.back(1), STATE);
        for (int image : Check.outside(0, 1)) Check.due("back(" + image + ")", x.back(image), BAD);
        x.keep(2);
        x.keep(-1);
        Check.due("a refused keep() keeps nothing", x.back(0), STATE);
        Check.due("a refused keep() keeps nothing", x.back(1), STATE);
        x.keep(1);
        Check.due("the other one", x.back(0), STATE);
        Check.due("back(1)", x.back(1), 1);
        x.graph();
        Check.due("gone, as it was read anew", x.back(1), STATE);
    }

    private static void count() {
        Check.sentence("0 NODES, 1 SEEN, 2 letters of THE TEXT. BAD.");
        ReachLabels x = Check.told("n12;");
        Check.bounds("count", 0, 2, x::count);
        for (int i = 0; i < 7; i++) x.sees(11, 0, 1);
        for (int i = 0; i < 121; i++) x.type(0);
        Check.due("count(0)", x.count(0), 12);
        Check.due("count(1)", x.count(1), 6);
        Check.due("count(2)", x.count(2), 120);
        Check.due("count(0) at least", Check.told("n1;").count(0), 1);
    }
}
