import java.util.Random;

/** Long runs of calls, the same to the class and to the model; each answer must be the same. */
public final class ModelTest {
    private static final int RUNS = 1500;
    private static final int CALLS = 512;
    private static final int[] ODD_NUMBERS = {-1, -2, -3, 12, 13, 99, 256, Integer.MIN_VALUE, Integer.MAX_VALUE};

    private final Random random;
    private final ReachLabels made = new ReachLabels();
    private final Model model = new Model();
    private final StringBuilder log = new StringBuilder();
    private int calls = 0;
    private boolean wrong = false;

    private ModelTest(int seed) {
        random = new Random(seed);
    }

    public static void main(String[] args) {
        int wrongRuns = 0;
        for (int seed = 1; seed <= RUNS; seed++) {
            ModelTest test = new ModelTest(seed);
            test.run();
            if (test.wrong) {
                wrongRuns++;
                System.out.println("run " + seed + ":" + test.log);
            }
            if (wrongRuns == 3) break;
        }
        System.out.println(wrongRuns == 0 ? "all answers are as the model's" : "answers differ from the model's");
        System.exit(wrongRuns == 0 ? 0 : 1);
    }

    private void run() {
        if (random.nextInt(8) > 0) tell();
        while (calls < CALLS && !wrong) {
            int kind = random.nextInt(100);
            if (kind < 3) tell();
            else if (kind < 35) change();
            else if (kind < 38) lookAtAll();
            else ask(random.nextInt(17));
        }
    }

    private void same(String call, int got, int due) {
        calls++;
        log.append(' ').append(call).append('=').append(got);
        if (got != due) {
            wrong = true;
            log.append(" but the model says ").append(due);
        }
    }

    /** Mostly a number as told, now and then one that is not. */
    private int number(int below) {
        if (random.nextInt(40) == 0) return ODD_NUMBERS[random.nextInt(ODD_NUMBERS.length)];
        return random.nextInt(Math.max(1, below));
    }

    private int node() {
        int nodes = model.count(0);
        return random.nextInt(60) == 0 ? nodes : number(nodes);
    }

    private void tell() {
        String text = text();
        for (int i = 0; i < text.length() && calls < CALLS && !wrong; i++) {
            same("type(" + (int) text.charAt(i) + ")", made.type(text.charAt(i)), model.type(text.charAt(i)));
        }
        if (random.nextInt(6) > 0) same("graph()", made.graph(), model.graph());
        if (random.nextInt(3) == 0) same("count(2)", made.count(2), model.count(2));
        if (random.nextInt(2) == 0) same("clear()", made.clear(), model.clear());
    }

    private String text() {
        StringBuilder text = new StringBuilder();
        int nodes = 4;
        if (random.nextInt(5) > 0) {
            nodes = 1 + random.nextInt(12);
            text.append('n').append(blank()).append(nodes).append(blank()).append(';');
        }
        int most = random.nextInt(10) == 0 ? 130 : 10 + random.nextInt(100);
        boolean oneWay = random.nextInt(2) == 0;
        java.util.Set<String> told = new java.util.HashSet<>();
        while (text.length() < most - 6 && told.size() < nodes * nodes) {
            int u = random.nextInt(nodes);
            int v = random.nextInt(nodes);
            if (oneWay && u > v && random.nextInt(8) > 0) { int w = u; u = v; v = w; }
            boolean edge = random.nextInt(5) > 0;
            String item = edge ? "e" + blank() + u + " " + blank() + v : "r" + blank() + u;
            boolean again = !told.add(edge ? u + ">" + v : "" + u) || edge && u == v;
            if (again && random.nextInt(150) > 0) {
                if (random.nextInt(12) == 0) break;
                continue;
            }
            text.append(item).append(blank()).append(';').append(blank());
        }
        if (random.nextInt(5) == 0 && text.length() > 0) spoil(text);
        return text.toString();
    }

    private String blank() {
        return random.nextInt(20) == 0 ? " " : "";
    }

    private void spoil(StringBuilder text) {
        String letters = "ner; 0123456789xN-\t";
        int at = random.nextInt(text.length());
        switch (random.nextInt(3)) {
            case 0: text.deleteCharAt(at); break;
            case 1: text.insert(at, letters.charAt(random.nextInt(letters.length()))); break;
            default: text.setCharAt(at, letters.charAt(random.nextInt(letters.length())));
        }
    }

    private void change() {
        int u = node();
        int v = node();
        switch (random.nextInt(16)) {
            case 0: case 1: case 2: case 3: case 4:
                same("adds(" + u + "," + v + ")", made.adds(u, v), model.adds(u, v)); break;
            case 5: case 6: case 7: case 8:
                same("cuts(" + u + "," + v + ")", made.cuts(u, v), model.cuts(u, v)); break;
            case 9: same("ranks()", made.ranks(), model.ranks()); break;
            case 10: case 11: same("undo()", made.undo(), model.undo()); break;
            case 12: {
                int image = number(2);
                same("keep(" + image + ")", made.keep(image), model.keep(image)); break;
            }
            case 13: {
                int image = number(2);
                if (random.nextInt(2) == 0) same("back(" + image + ")", made.back(image), model.back(image));
                break;
            }
            case 14: {
                int came = number(2);
                same("sees(" + u + "," + v + "," + came + ")", made.sees(u, v, came), model.sees(u, v, came)); break;
            }
            default:
                if (random.nextInt(3) == 0) same("forget()", made.forget(), model.forget());
        }
    }

    private void ask(int kind) {
        int u = node();
        int v = node();
        String two = "(" + u + "," + v;
        int what;
        switch (kind) {
            case 0: what = number(7); same("node(" + u + "," + what + ")", made.node(u, what), model.node(u, what)); break;
            case 1: same("edge" + two + ")", made.edge(u, v), model.edge(u, v)); break;
            case 2: what = number(8); same("now(" + what + ")", made.now(what), model.now(what)); break;
            case 3: same("comes" + two + ")", made.comes(u, v), model.comes(u, v)); break;
            case 4: same("hub" + two + ")", made.hub(u, v), model.hub(u, v)); break;
            case 5: case 6: {
                int k = random.nextInt(4) == 0 ? -1 : number(6);
                same("way" + two + "," + k + ")", made.way(u, v, k), model.way(u, v, k)); break;
            }
            case 7: what = number(2); same("on" + two + "," + what + ")", made.on(u, v, what), model.on(u, v, what)); break;
            case 8: case 9:
                what = number(2); same("loss" + two + "," + what + ")", made.loss(u, v, what), model.loss(u, v, what)); break;
            case 10: same("gain" + two + ")", made.gain(u, v), model.gain(u, v)); break;
            case 11: what = number(2); same("best(" + what + ")", made.best(what), model.best(what)); break;
            case 12: {
                int x = number(11);
                what = number(2);
                same("odds(" + x + "," + u + "," + v + "," + what + ")", made.odds(x, u, v, what), model.odds(x, u, v, what));
                break;
            }
            case 13: what = number(2); same("unseen(" + what + ")", made.unseen(what), model.unseen(what)); break;
            case 14: same("next()", made.next(), model.next()); break;
            case 15: what = number(3); same("count(" + what + ")", made.count(what), model.count(what)); break;
            default: {
                int letter = ODD_NUMBERS[random.nextInt(ODD_NUMBERS.length)];
                same("type(" + letter + ")", made.type(letter), model.type(letter));
            }
        }
    }

    private void lookAtAll() {
        for (int what = 0; what <= 7 && calls < CALLS; what++) same("now(" + what + ")", made.now(what), model.now(what));
        for (int u = 0; u < model.count(0) && calls < CALLS - 7; u++) {
            for (int what = 0; what <= 6; what++) {
                same("node(" + u + "," + what + ")", made.node(u, what), model.node(u, what));
            }
        }
    }
}
