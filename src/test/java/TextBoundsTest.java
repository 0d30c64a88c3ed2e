/** The boundaries of 'Terms' 1 and of promises 1 to 4: NODES, EDGES, THE TEXT and its reading. */
public final class TextBoundsTest {
    private static final int BAD = Check.BAD, STATE = Check.STATE, FULL = Check.FULL;

    public static void main(String[] args) {
        nodesAtFirst();
        nodesToldLeastAndMost();
        nodesUntold();
        anEdgeIsOfOneWay();
        anEdgeIsToAnotherNode();
        anEdgeIsToldOnce();
        allEdges();
        textOf120();
        fullTextIsRead();
        fullTextHasFaults();
        blanks();
        onlyLetter32IsBlank();
        itemsAreEnded();
        nIsFirstOfAll();
        everyLetterAtEveryPlace();
        theFirstToken();
        numbersBeyond();
        rankedAlready();
        numbersAbove99();
        zeroAheadOfOthers();
        endsTooEarly();
        rankNone();
        rankSome();
        rankAll();
        newObject();
        letters();
        fullLater();
        clear();
        graphOfNothing();
        graphEmptiesTheText();
        mostItems();
        faultChangesNothing();
        readAnew();
        Check.end();
    }

    // ---- NODES

    private static void nodesAtFirst() {
        Check.sentence("4 at first)");
        ReachLabels x = new ReachLabels();
        Check.due("count(0)", x.count(0), 4);
        Check.due("node(3, 0)", x.node(3, 0), 3);
        Check.due("node(4, 0)", x.node(4, 0), BAD);
        Check.due("node(-1, 0)", x.node(-1, 0), BAD);
        Check.items("e3 0;e0 3;r3;", 3);
        Check.faultAt("e4 0;", 1);
    }

    private static void nodesToldLeastAndMost() {
        Check.sentence("NODES 0 .. as many as are told less 1 (1 ..");
        Check.faultAt("n0;", 1);
        for (int n = 1; n <= 12; n++) {
            ReachLabels x = Check.told("n" + n + ";");
            Check.due("count(0) of n" + n, x.count(0), n);
            Check.due("the last NODE of n" + n, x.node(n - 1, 0), n - 1);
            for (int u : Check.outside(0, n - 1)) Check.due("node(" + u + ", 0) of n" + n, x.node(u, 0), BAD);
        }
        for (int n = 13; n <= 200; n++) Check.faultAt("n" + n + ";", 1);
    }

    private static void nodesUntold() {
        Check.sentence("(NODES; the first of all, if it is told)");
        ReachLabels x = Check.told("n12;");
        Check.typeAll(x, "e0 1;");
        Check.due("graph()", x.graph(), 1);
        Check.due("count(0)", x.count(0), 4);
        Check.due("node(4, 0)", x.node(4, 0), BAD);
        ReachLabels one = Check.told("n1;");
        Check.due("graph()", one.graph(), 0);
        Check.due("count(0)", one.count(0), 4);
        Check.due("node(3, 2)", one.node(3, 2), 3);
    }

    // ---- EDGES

    private static void anEdgeIsOfOneWay() {
        Check.sentence("EDGES, of one way, from a NODE to another one, each once at most.");
        ReachLabels x = Check.told("e0 1;");
        Check.due("edge(0, 1)", x.edge(0, 1), 1);
        Check.due("edge(1, 0)", x.edge(1, 0), 0);
        Check.due("comes(1, 0)", x.comes(1, 0), 0);
        ReachLabels both = Check.told("e0 1;e1 0;");
        Check.due("now(0) of both ways", both.now(0), 2);
    }

    private static void anEdgeIsToAnotherNode() {
        Check.sentence("V that is U");
        for (int u = 0; u < 12; u++) {
            String text = "n12;e" + u + " " + u + ";";
            Check.faultAt(text, text.length() - (u < 10 ? 2 : 3));
        }
        Check.faultAt("n1;e0 0;", 6);
        Check.faultAt("e0 0", 3);
    }

    private static void anEdgeIsToldOnce() {
        Check.sentence("an EDGE told already");
        Check.faultAt("e0 1;e0 1;", 8);
        Check.faultAt("e0 1;e1 0;e2 1;e0 1;", 18);
        Check.faultAt("n12;e11 10;e10 11;e11 10;", 22);
        Check.faultAt("e0 1;e0 1", 8);
        Check.items("e0 1;e1 0;", 2);
        ReachLabels x = Check.told("e0 1;");
        Check.typeAll(x, "e0 1;");
        Check.due("graph() again, all anew", x.graph(), 1);
    }

    private static void allEdges() {
        Check.sentence("each once at most.");
        StringBuilder text = new StringBuilder();
        for (int u = 0; u < 4; u++) for (int v = 0; v < 4; v++) if (u != v) text.append("e" + u + " " + v + ";");
        ReachLabels x = Check.told(text.toString());
        Check.due("now(0)", x.now(0), 12);
        Check.faultAt(text + "e3 2;", 63);
        ReachLabels most = Check.complete(12);
        Check.due("now(0) of 12 NODES", most.now(0), 132);
    }

    // ---- THE TEXT

    private static void textOf120() {
        Check.sentence("They are a text (120 letters at most), told letter by letter");
        ReachLabels x = new ReachLabels();
        for (int i = 1; i <= 120; i++) Check.due("letter " + i, x.type(' '), i);
        Check.due("letter 121", x.type(' '), FULL);
        Check.due("letter 122", x.type(';'), FULL);
        Check.due("count(2)", x.count(2), 120);
        Check.due("clear()", x.clear(), 120);
        Check.due("a letter behind it", x.type(' '), 1);
    }

    private static String padded(String head, String tail) {
        StringBuilder text = new StringBuilder(head);
        while (text.length() + tail.length() < 120) text.append(' ');
        return text.append(tail).toString();
    }

    private static void fullTextIsRead() {
        Check.sentence("(120 letters at most)");
        ReachLabels x = new ReachLabels();
        Check.typeAll(x, padded("n12;", "e11 10;"));
        Check.due("the one letter too many", x.type('x'), FULL);
        Check.due("graph()", x.graph(), 2);
        Check.due("edge(11, 10)", x.edge(11, 10), 1);
        Check.due("count(2)", x.count(2), 0);
        Check.due("a letter behind it", x.type('n'), 1);
        Check.items(padded("", ""), 0);
        Check.items(padded("n3", ";"), 1);
    }

    private static void fullTextHasFaults() {
        Check.sentence("the text's length, if it ends too early.");
        Check.faultAt(padded("n1;", "e"), 120);
        Check.faultAt(padded("n12", ""), 120);
        Check.faultAt(padded("n12", "e"), 119);
        Check.faultAt(padded("n12;", "?"), 119);
        Check.faultAt(padded("e0 1;", "r3;r3"), 119);
        ReachLabels x = new ReachLabels();
        Check.typeAll(x, padded("", "r0"));
        Check.due("the ; that has no room", x.type(';'), FULL);
        Check.due("graph()", x.graph(), -130);
        Check.due("count(2)", x.count(2), 120);
    }

    // ---- TOKENS and ITEMS

    private static void blanks() {
        Check.sentence("blanks (32) between TOKENS");
        Check.items("   ", 0);
        Check.items("  n   3  ;   e 0  1 ;r   2  ;  ", 3);
        Check.items("n3;e0 1;r2;", 3);
        Check.faultAt("n1 2;", 3);
        Check.faultAt("e01;", 1);
        Check.faultAt("n12;e1011;", 5);
        Check.faultAt("e12;", 1);
        Check.faultAt("e1 ;", 3);
    }

    private static void onlyLetter32IsBlank() {
        Check.sentence("blanks (32)");
        int[] others = {0, 1, 9, 10, 11, 12, 13, 31, 33, 64, 95, 127, 128, 160, 255};
        for (int letter : others) {
            Check.faultAt("" + (char) letter, 0);
            Check.faultAt("n3;" + (char) letter, 3);
            Check.faultAt("n" + (char) letter + "3;", 1);
            Check.faultAt("e0" + (char) letter + "1;", 2);
            Check.faultAt("n3" + (char) letter + ";", 2);
        }
    }

    private static void itemsAreEnded() {
        Check.sentence("ITEMS, each ended by ;");
        Check.faultAt(";", 0);
        Check.faultAt("n3;;", 3);
        Check.faultAt("n3 e0 1;", 3);
        Check.faultAt("n3n3;", 2);
        Check.faultAt("e0 1e1 0;", 4);
        Check.faultAt("e0 1 2;", 5);
        Check.faultAt("r0r1;", 2);
        Check.faultAt("r0 1;", 3);
        Check.faultAt("n 3 4;", 4);
        Check.faultAt("n;", 1);
        Check.faultAt("e;", 1);
        Check.faultAt("e0;", 2);
        Check.faultAt("r;", 1);
        Check.faultAt("3;", 0);
    }

    private static void nIsFirstOfAll() {
        Check.sentence("n behind another ITEM");
        Check.faultAt("n5;n5;", 3);
        Check.faultAt("e0 1;n5;", 5);
        Check.faultAt("r0;n5;", 3);
        Check.faultAt("n5;e0 1;r0;n5;", 11);
        Check.faultAt("r0;n", 3);
        Check.items("   n5;", 1);
    }

    private static void everyLetterAtEveryPlace() {
        Check.sentence("TOKENS are the letters n, e, r, NUMBERS and ;");
        // Behind each head the letters that may stand there; any other one is at fault at once.
        String[] heads = {"", "n", "n3", "n 3 ", "n3;", "e", "e0", "e0 ", "e0 1", "e 0 1 ", "r", "r0", "r 0 "};
        String[] fitting = {
            "ner", "123456789", " ;", " ;", "er", "0123", " ", "123", " ;", " ;", "0123", " ;", " ;"};
        for (int i = 0; i < heads.length; i++) {
            for (int letter = 0; letter < 256; letter++) everyLetterBehind(heads[i], fitting[i], (char) letter);
        }
    }

    private static void everyLetterBehind(String head, String fitting, char letter) {
        String text = head + letter;
        boolean goesOn = !head.isEmpty() && Character.isDigit(head.charAt(head.length() - 1));
        boolean whole = letter == ';' && fitting.indexOf(';') >= 0;
        boolean stillWhole = letter == ' ' && (head.isEmpty() || head.endsWith(";"));
        if (whole) Check.items(text, 1);
        else if (stillWhole) Check.items(text, head.isEmpty() ? 0 : 1);
        else if (letter == ' ' || fitting.indexOf(letter) >= 0) Check.faultAt(text, text.length());
        // A digit behind a digit makes one NUMBER of both, too great here or with a 0 ahead.
        else if (goesOn && letter >= '0' && letter <= '9') Check.faultAt(text, head.length() - 1);
        else Check.faultAt(text, head.length());
    }

    // ---- FAULT

    private static void theFirstToken() {
        Check.sentence("FAULT: the place of the first letter of the first TOKEN that can't stand there");
        Check.faultAt("n13;x", 1);
        Check.faultAt("e0 0;n100;", 3);
        Check.faultAt("e4 4;", 1);
        Check.faultAt("e9 100;", 1);
        Check.faultAt("x100", 0);
        Check.faultAt("n3;e0 1;e0 2;e1 4;x", 16);
        Check.faultAt("r0;r0;e", 4);
        Check.faultAt("   x", 3);
        Check.faultAt("n    13;", 5);
    }

    private static void numbersBeyond() {
        Check.sentence("a NUMBER beyond what it may be, too)");
        for (int n = 1; n <= 12; n++) {
            String head = "n" + n + ";";
            int behind = head.length();
            Check.items(head + "r" + (n - 1) + ";", 2);
            Check.faultAt(head + "r" + n + ";", behind + 1);
            Check.faultAt(head + "e" + n + " 0;", behind + 1);
            Check.faultAt(head + "e0 " + n + ";", behind + 3);
            if (n > 1) Check.items(head + "e" + (n - 1) + " 0;e0 " + (n - 1) + ";", 3);
            for (int far = n; far <= 99; far++) Check.faultAt(head + "r" + far + ";", behind + 1);
        }
        Check.faultAt("n0", 1);
        Check.faultAt("n13", 1);
        Check.faultAt("r4", 1);
        Check.faultAt("e4", 1);
        Check.faultAt("e0 4", 3);
    }

    private static void rankedAlready() {
        Check.sentence("a NODE RANKED already");
        Check.faultAt("r0;r0;", 4);
        Check.faultAt("r3;r2;r1;r0;r3;", 13);
        Check.faultAt("n12;r11;r11", 9);
        Check.faultAt("n1;r0;r0;", 7);
        Check.items("r3;r2;r1;r0;", 4);
    }

    private static void numbersAbove99() {
        Check.sentence("a NUMBER above 99 or with a 0 ahead of others, that TOKEN's");
        String[] great = {
            "99", "100", "101", "255", "256", "260", "999", "1000", "65537", "2147483647", "2147483648", "4294967296",
            "4294967297", "4294967299", "9223372036854775807", "18446744073709551617", "36893488147419103233",
            "1".repeat(100), "1" + "0".repeat(100)};
        for (String number : great) {
            Check.faultAt("n" + number + ";", 1);
            Check.faultAt("n  " + number, 3);
            Check.faultAt("r" + number + ";", 1);
            Check.faultAt("e" + number + " 0;", 1);
            Check.faultAt("e0 " + number + ";", 3);
            Check.faultAt(number, 0);
            Check.faultAt("n3 " + number + ";", 3);
        }
        Check.faultAt("n" + "1".repeat(119), 1);
        Check.faultAt("1".repeat(120), 0);
    }

    private static void zeroAheadOfOthers() {
        Check.sentence("with a 0 ahead of others");
        String[] ahead = {"00", "01", "02", "09", "012", "000", "0000000001", "0" + "1".repeat(50), "0".repeat(110)};
        for (String number : ahead) {
            Check.faultAt("n" + number + ";", 1);
            Check.faultAt("r" + number + ";", 1);
            Check.faultAt("e" + number + " 3;", 1);
            Check.faultAt("e3 " + number + ";", 3);
            Check.faultAt("r" + number, 1);
        }
        Check.items("e0 1;e1 0;r0;", 3);
        Check.items("n10;r0;", 2);
    }

    private static void endsTooEarly() {
        Check.sentence("the text's length, if it ends too early.");
        String whole = "n12;e10 11;r3; e0 1 ;";
        for (int length = 0; length <= whole.length(); length++) {
            String text = whole.substring(0, length);
            int ended = (int) text.chars().filter(letter -> letter == ';').count();
            boolean isWhole = text.trim().isEmpty() || text.trim().endsWith(";");
            if (isWhole) Check.items(text, ended);
            else early(text);
        }
    }

    private static void early(String text) {
        Check.faultAt(text, text.length());
        Check.faultAt(text + "   ", text.length() + 3);
    }

    // ---- RANK

    private static void rankNone() {
        Check.sentence("those that were not come behind them, by numbers.");
        Check.due("no NODE RANKED", Check.ranksOf(Check.told("n12;")), "0 1 2 3 4 5 6 7 8 9 10 11");
        Check.due("one NODE", Check.ranksOf(Check.told("n1;")), "0");
        Check.due("the last RANKED", Check.ranksOf(Check.told("n5;r4;")), "1 2 3 4 0");
    }

    private static void rankSome() {
        Check.sentence("RANK of a NODE: 0, 1, .. as it was RANKED");
        Check.due("3, then 1", Check.ranksOf(Check.told("n5;r3;r1;")), "2 1 3 0 4");
        Check.due("with an EDGE between", Check.ranksOf(Check.told("r2;e0 1;r0;")), "1 2 0 3");
        Check.due("all but one", Check.ranksOf(Check.told("r3;r2;r1;")), "3 2 1 0");
    }

    private static void rankAll() {
        Check.sentence("(U is RANKED next)");
        StringBuilder text = new StringBuilder("n12;");
        for (int u = 11; u >= 0; u--) text.append("r" + u + ";");
        Check.due("all, backward", Check.ranksOf(Check.told(text.toString())), "11 10 9 8 7 6 5 4 3 2 1 0");
        Check.due("the only one", Check.ranksOf(Check.told("n1;r0;")), "0");
    }

    // ---- promises 1 to 4

    private static void newObject() {
        Check.sentence("`ReachLabels()`: As told; no EDGES.");
        ReachLabels x = new ReachLabels();
        int[] now = {0, 4, 8, 0, 0, 4, 1, 0};
        for (int what = 0; what <= 7; what++) Check.due("now(" + what + ")", x.now(what), now[what]);
        Check.due("RANKS", Check.ranksOf(x), "0 1 2 3");
        Check.due("count(1)", x.count(1), 0);
        Check.due("count(2)", x.count(2), 0);
        Check.due("undo()", x.undo(), STATE);
        Check.due("back(0)", x.back(0), STATE);
        Check.due("back(1)", x.back(1), STATE);
        Check.due("clear()", x.clear(), 0);
        Check.due("forget()", x.forget(), 0);
        for (int u = 0; u < 4; u++) for (int v = 0; v < 4; v++) if (u != v) Check.due("edge", x.edge(u, v), 0);
    }

    private static void letters() {
        Check.sentence("A letter (0 .. 255) comes to THE TEXT: how many it has. BAD; FULL.");
        for (int first = 0; first < 256; first += 64) {
            ReachLabels x = new ReachLabels();
            for (int i = 0; i < 64; i++) Check.due("type(" + (first + i) + ")", x.type(first + i), i + 1);
        }
        ReachLabels x = new ReachLabels();
        x.type('n');
        for (int letter : Check.outside(0, 255)) Check.due("type(" + letter + ")", x.type(letter), BAD);
        Check.due("those did not come to it", x.count(2), 1);
        Check.due("the next that does", x.type(255), 2);
    }

    private static void fullLater() {
        Check.sentence("Refused, and nothing changes, the first of these: BAD");
        ReachLabels x = new ReachLabels();
        Check.typeAll(x, padded("", ""));
        for (int letter : Check.outside(0, 255)) Check.due("type(" + letter + ") of a full one", x.type(letter), BAD);
        Check.due("type(0) of a full one", x.type(0), FULL);
        Check.due("type(255) of a full one", x.type(255), FULL);
    }

    private static void clear() {
        Check.sentence("THE TEXT is empty: how many letters it had.");
        ReachLabels x = Check.told("n2;e1 0;");
        Check.due("clear() of nothing", x.clear(), 0);
        x.type('x');
        Check.due("clear() of one", x.clear(), 1);
        Check.due("clear() again", x.clear(), 0);
        Check.typeAll(x, padded("x", "x"));
        Check.due("clear() of a full one", x.clear(), 120);
        Check.due("count(2)", x.count(2), 0);
        Check.due("NODES stay", x.count(0), 2);
        Check.due("EDGES stay", x.edge(1, 0), 1);
        Check.typeAll(x, "n3;");
        Check.due("nothing of it is read later", x.graph(), 1);
    }

    private static void graphOfNothing() {
        Check.sentence("THE TEXT tells all anew, and is empty then: how many ITEMS.");
        ReachLabels x = Check.told("n7;e5 6;r6;");
        x.adds(0, 1);
        Check.due("graph() of nothing", x.graph(), 0);
        Check.due("count(0)", x.count(0), 4);
        Check.due("now(0)", x.now(0), 0);
        Check.due("RANKS", Check.ranksOf(x), "0 1 2 3");
        Check.due("now(7)", x.now(7), 0);
        Check.due("graph() of blanks", x.type(' ') == 1 ? x.graph() : BAD, 0);
    }

    private static void graphEmptiesTheText() {
        Check.sentence("and is empty then");
        ReachLabels x = Check.told("n3;");
        Check.due("count(2)", x.count(2), 0);
        Check.due("clear()", x.clear(), 0);
        Check.typeAll(x, "n5;");
        Check.due("n is the first again", x.graph(), 1);
        Check.due("count(0)", x.count(0), 5);
    }

    private static void mostItems() {
        Check.sentence("how many ITEMS.");
        StringBuilder text = new StringBuilder("n12;");
        for (int u = 0; u < 12; u++) text.append("r" + u + ";");
        for (int v = 1; v <= 9; v++) text.append("e0 " + v + ";");
        for (int v = 2; v <= 7; v++) text.append("e1 " + v + ";");
        Check.items(text.toString(), 28);
        Check.items(text + "   ", 28);
        Check.due("its length", text.length(), 117);
        Check.items("n1;", 1);
    }

    private static void faultChangesNothing() {
        Check.sentence("-10 less FAULT: nothing changes.");
        ReachLabels x = Check.told("n3;e0 1;r2;");
        x.adds(1, 2);
        x.keep(0);
        x.sees(0, 2, 1);
        Check.typeAll(x, "n2;e1 0");
        Check.due("graph() of a text too short", x.graph(), -17);
        Check.due("graph() again", x.graph(), -17);
        Check.due("THE TEXT stays", x.count(2), 7);
        Check.due("NODES stay", x.count(0), 3);
        Check.due("EDGES stay", x.edge(1, 0), 0);
        Check.due("EDGES stay", x.now(0), 2);
        Check.due("RANKS stay", Check.ranksOf(x), "1 2 0");
        Check.due("SEEN stays", x.count(1), 1);
        Check.due("UNDONE stays", x.now(7), 1);
        Check.due("IMAGES stay", x.back(0), 2);
        Check.due("it goes on where it was", x.type(';'), 8);
        Check.due("graph() of the whole text", x.graph(), 2);
        Check.due("count(0)", x.count(0), 2);
        Check.due("edge(1, 0)", x.edge(1, 0), 1);
    }

    private static void readAnew() {
        Check.sentence("(Read anew: as told, nothing SEEN, IMAGES are gone.)");
        ReachLabels x = Check.told("n3;e0 1;r2;");
        for (int i = 0; i < 6; i++) x.sees(0, 1, 1);
        x.keep(0);
        x.keep(1);
        for (int i = 0; i < 12; i++) x.ranks();
        Check.typeAll(x, "n3;");
        Check.due("graph()", x.graph(), 1);
        Check.due("count(1)", x.count(1), 0);
        Check.due("forget()", x.forget(), 0);
        Check.due("unseen(0)", x.unseen(0), 6);
        Check.due("back(0)", x.back(0), STATE);
        Check.due("back(1)", x.back(1), STATE);
        Check.due("now(0)", x.now(0), 0);
        Check.due("RANKS", Check.ranksOf(x), "0 1 2");
        Check.due("now(7)", x.now(7), 0);
        Check.due("undo()", x.undo(), STATE);
        Check.due("sees()", x.sees(0, 1, 1), 1);
    }
}
