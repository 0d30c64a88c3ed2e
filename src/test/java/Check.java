import java.io.IOException;
import java.nio.file.Files;
import java.nio.file.Path;
import java.util.Set;
import java.util.TreeSet;
import java.util.function.IntUnaryOperator;

/** What the tests of boundaries share: the sentence that is on trial, the answers that are due under it. */
final class Check {
    static final int BAD = -1, STATE = -2, FULL = -3, NONE = -9;
    static final int MIN = Integer.MIN_VALUE, MAX = Integer.MAX_VALUE;

    /** Numbers that a careless shift, cast or sum takes for small ones. */
    private static final int[] FAR_OFF = {
        MIN, MIN + 1, MIN + 4, -65536, -256, -255, -128, -64, -33, -32, -31, -16, -13, -12, -10, -9, -3, -2, -1,
        11, 12, 13, 15, 16, 17, 31, 32, 33, 64, 99, 100, 120, 127, 128, 255, 256, 257, 366, 65536, 65537, 65646,
        1 << 24, 1 << 30, MAX - 1, MAX};

    private static final String DOCUMENT = document();
    private static int sentences = 0;
    private static int wrong = 0;
    private static String sentence = "";

    private Check() { }

    private static String document() {
        try {
            return Files.readString(Path.of("../shared/DOC.md")).replaceAll("\\s+", " ");
        } catch (IOException e) {
            throw new IllegalStateException("the tests quote ../shared/DOC.md", e);
        }
    }

    /** A quotation that the document has no more is a test of nothing, so it is wrong too. */
    static void sentence(String words) {
        sentence = words;
        sentences++;
        if (!DOCUMENT.contains(words)) {
            wrong++;
            System.out.println("not in the document: " + words);
        }
    }

    static void due(String call, int got, int want) {
        if (got != want) {
            wrong++;
            System.out.println("'" + sentence + "': " + call + " answered " + got + ", due is " + want);
        }
    }

    static void taken(String call, int got) {
        if (got == BAD) {
            wrong++;
            System.out.println("'" + sentence + "': " + call + " was refused");
        }
    }

    static void due(String call, String got, String want) {
        if (!got.equals(want)) {
            wrong++;
            System.out.println("'" + sentence + "': " + call + " answered " + got + ", due is " + want);
        }
    }

    /** All from least to most are taken; what is next to them, and what is far off, is BAD. */
    static void bounds(String call, int least, int most, IntUnaryOperator made) {
        for (int i = least; i <= most; i++) taken(call + " of " + i, made.applyAsInt(i));
        for (int i : outside(least, most)) due(call + " of " + i, made.applyAsInt(i), BAD);
    }

    static Set<Integer> outside(int least, int most) {
        Set<Integer> found = new TreeSet<>();
        for (int i : FAR_OFF) if (i < least || i > most) found.add(i);
        found.add(least - 1);
        found.add(most + 1);
        return found;
    }

    static void typeAll(ReachLabels x, String text) {
        for (int i = 0; i < text.length(); i++) x.type(text.charAt(i));
    }

    /** What graph() of a new object answers to a text. */
    static int read(String text) {
        ReachLabels x = new ReachLabels();
        typeAll(x, text);
        return x.graph();
    }

    static void faultAt(String text, int place) {
        due("graph() of \"" + text + "\"", read(text), -10 - place);
    }

    static void items(String text, int items) {
        due("graph() of \"" + text + "\"", read(text), items);
    }

    static ReachLabels told(String text) {
        ReachLabels x = new ReachLabels();
        typeAll(x, text);
        if (x.graph() < 0) throw new IllegalArgumentException("a test's own text is wrong: " + text);
        return x;
    }

    /** By adds(), as so many EDGES are more than a text can tell. */
    static ReachLabels complete(int nodes) {
        ReachLabels x = told("n" + nodes + ";");
        for (int u = 0; u < nodes; u++) for (int v = 0; v < nodes; v++) if (u != v) x.adds(u, v);
        return x;
    }

    /** 0 to 1 to 2 .. , by adds(). */
    static ReachLabels row(int nodes) {
        ReachLabels x = told("n" + nodes + ";");
        for (int u = 0; u + 1 < nodes; u++) x.adds(u, u + 1);
        return x;
    }

    static ReachLabels ring(int nodes) {
        ReachLabels x = row(nodes);
        if (nodes > 1) x.adds(nodes - 1, 0);
        return x;
    }

    static String ranksOf(ReachLabels x) {
        StringBuilder all = new StringBuilder();
        for (int u = 0; u < x.count(0); u++) all.append(u > 0 ? " " : "").append(x.node(u, 2));
        return all.toString();
    }

    static void end() {
        System.out.println(sentences + " sentences, " + wrong + " answers are not as due");
        System.exit(wrong == 0 && sentences > 0 ? 0 : 1);
    }
}
