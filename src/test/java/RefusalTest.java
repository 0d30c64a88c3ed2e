import java.util.ArrayList;
import java.util.List;
import java.util.Set;
import java.util.TreeSet;
import java.util.function.ToIntFunction;

/** "Refused, and nothing changes, the first of these: BAD, STATE, FULL": of every call, in states of many kinds. */
public final class RefusalTest {
    private static final int BAD = Check.BAD, STATE = Check.STATE, FULL = Check.FULL;
    private static final int MOST_CALLS = 512;
    private static final String REFUSALS = "[adds BAD, adds STATE, back BAD, back STATE, best BAD, comes BAD, count BAD, "
            + "cuts BAD, cuts STATE, edge BAD, gain BAD, gain STATE, graph FAULT, hub BAD, keep BAD, loss BAD, loss STATE, "
            + "node BAD, now BAD, odds BAD, odds STATE, on BAD, sees BAD, sees FULL, type BAD, type FULL, undo STATE, "
            + "unseen BAD, way BAD]";

    /** A call that asks changes nothing, whatever it answers; one that does something, only if it is refused. */
    private record Call(String name, boolean asks, ToIntFunction<ReachLabels> made) { }

    private static final Set<String> met = new TreeSet<>();

    public static void main(String[] args) {
        badAheadOfState();
        badAheadOfFull();
        badAheadOfNone();
        badOfSeveralNumbers();
        nothingChanges();
        Check.end();
    }

    // ---- which comes first

    private static void badAheadOfState() {
        Check.sentence("BAD (a number is not as told, or there is no such thing), STATE (as told), FULL.");
        ReachLabels none = new ReachLabels();
        Check.due("cuts(0, 0), which is not there", none.cuts(0, 0), BAD);
        Check.due("cuts(0, 4), which is not there", none.cuts(0, 4), BAD);
        Check.due("loss(0, 1, 2), which is not there", none.loss(0, 1, 2), BAD);
        Check.due("loss(0, 1, -1), which is not there", none.loss(0, 1, -1), BAD);
        Check.due("loss(1, 1, 0), which is not there", none.loss(1, 1, 0), BAD);
        Check.due("loss(0, 4, 0), which is not there", none.loss(0, 4, 0), BAD);
        Check.due("back(2), none was kept", none.back(2), BAD);
        Check.due("back(-1), none was kept", none.back(-1), BAD);
        ReachLabels many = Check.complete(12);
        Check.due("adds(3, 3)", many.adds(3, 3), BAD);
        Check.due("gain(3, 3)", many.gain(3, 3), BAD);
        Check.due("adds(12, 0)", many.adds(12, 0), BAD);
        Check.due("gain(0, 12)", many.gain(0, 12), BAD);
        Check.due("odds(11, ..) of many EDGES", many.odds(11, 0, 1, 0), BAD);
        Check.due("odds(-1, ..) of many EDGES", many.odds(-1, 0, 1, 0), BAD);
        Check.due("odds(1, 12, ..) of many EDGES", many.odds(1, 12, 1, 0), BAD);
        Check.due("odds(1, 0, -1, ..) of many EDGES", many.odds(1, 0, -1, 0), BAD);
        Check.due("odds(.., 2) of many EDGES", many.odds(1, 0, 1, 2), BAD);
        Check.due("odds of many EDGES", many.odds(1, 0, 1, 1), STATE);
    }

    private static void badAheadOfFull() {
        Check.sentence("STATE (as told), FULL.");
        ReachLabels x = new ReachLabels();
        for (int i = 0; i < 6; i++) x.sees(0, 1, 1);
        for (int i = 0; i < 120; i++) x.type(' ');
        Check.due("sees(0, 1, 2)", x.sees(0, 1, 2), BAD);
        Check.due("sees(0, 1, -1)", x.sees(0, 1, -1), BAD);
        Check.due("sees(4, 1, 0)", x.sees(4, 1, 0), BAD);
        Check.due("sees(0, -1, 0)", x.sees(0, -1, 0), BAD);
        Check.due("sees(0, 1, 0)", x.sees(0, 1, 0), FULL);
        Check.due("type(256)", x.type(256), BAD);
        Check.due("type(-1)", x.type(-1), BAD);
        Check.due("type(0)", x.type(0), FULL);
    }

    private static void badAheadOfNone() {
        Check.sentence("BAD (a number is not as told, or there is no such thing)");
        ReachLabels x = new ReachLabels();
        Check.due("way(0, 1, -2), which leads nowhere", x.way(0, 1, -2), BAD);
        Check.due("way(0, 4, 9)", x.way(0, 4, 9), BAD);
        Check.due("on(0, 1, 2), which leads nowhere", x.on(0, 1, 2), BAD);
        Check.due("hub(4, 0)", x.hub(4, 0), BAD);
        Check.due("hub(0, -1)", x.hub(0, -1), BAD);
        ReachLabels full = Check.complete(3);
        Check.due("best(2) of NONE", full.best(2), BAD);
        Check.due("unseen(2) of NONE", full.unseen(2), BAD);
        Check.due("best(-1) of NONE", full.best(-1), BAD);
        Check.due("unseen(-1) of NONE", full.unseen(-1), BAD);
    }

    private static void badOfSeveralNumbers() {
        Check.sentence("a number is not as told");
        for (int wrong : Check.outside(0, 11)) {
            ReachLabels x = Check.told("n12;");
            Check.due("node", x.node(wrong, wrong), BAD);
            Check.due("edge", x.edge(wrong, wrong), BAD);
            Check.due("adds", x.adds(wrong, wrong), BAD);
            Check.due("cuts", x.cuts(wrong, wrong), BAD);
            Check.due("comes", x.comes(wrong, wrong), BAD);
            Check.due("hub", x.hub(wrong, wrong), BAD);
            Check.due("way", x.way(wrong, wrong, wrong), BAD);
            Check.due("on", x.on(wrong, wrong, wrong), BAD);
            Check.due("loss", x.loss(wrong, wrong, wrong), BAD);
            Check.due("gain", x.gain(wrong, wrong), BAD);
            Check.due("odds", x.odds(wrong, wrong, wrong, wrong), BAD);
            Check.due("sees", x.sees(wrong, wrong, wrong), BAD);
        }
    }

    // ---- that nothing changes

    private static void nothingChanges() {
        Check.sentence("Refused, and nothing changes");
        for (List<Call> state : states()) {
            List<List<Call>> later = continuations();
            List<String> untouched = new ArrayList<>();
            for (List<Call> more : later) untouched.add(lookBehind(state, null, more));
            for (Call call : candidates(make(state).count(0))) {
                int answer = call.made().applyAsInt(make(state));
                boolean refused = isRefusal(call, answer);
                if (refused) met.add(kind(call, answer));
                if (!refused && !call.asks()) continue;
                for (int i = 0; i < later.size(); i++) {
                    Check.due(call.name() + ", then " + names(later.get(i)) + ", then all that can be asked",
                            lookBehind(state, call, later.get(i)), untouched.get(i));
                }
            }
        }
        Check.due("the refusals that were met", met.toString(), REFUSALS);
    }

    private static boolean isRefusal(Call call, int answer) {
        return answer == BAD || answer == STATE || answer == FULL || call.name().equals("graph()") && answer <= -10;
    }

    private static String kind(Call call, int answer) {
        String code = answer == BAD ? "BAD" : answer == STATE ? "STATE" : answer == FULL ? "FULL" : "FAULT";
        return call.name().substring(0, call.name().indexOf('(')) + " " + code;
    }

    private static String names(List<Call> calls) {
        StringBuilder all = new StringBuilder();
        for (Call call : calls) all.append(call.name()).append(' ');
        return all.toString().trim();
    }

    private static ReachLabels make(List<Call> calls) {
        ReachLabels x = new ReachLabels();
        for (Call call : calls) call.made().applyAsInt(x);
        return x;
    }

    /** What an object tells of itself behind a state, a call perhaps, and what is done then. */
    private static String lookBehind(List<Call> state, Call between, List<Call> more) {
        ReachLabels x = make(state);
        if (between != null) between.made().applyAsInt(x);
        StringBuilder all = new StringBuilder();
        for (Call call : more) all.append(call.made().applyAsInt(x)).append(',');
        int asked = look(x, all);
        int calls = state.size() + 1 + more.size() + asked;
        if (calls > MOST_CALLS) throw new IllegalStateException("nothing is promised of call " + calls);
        return all.toString();
    }

    private static int look(ReachLabels x, StringBuilder all) {
        int asked = 16;
        int nodes = x.count(0);
        for (int what = 0; what <= 2; what++) all.append(x.count(what)).append(' ');
        for (int what = 0; what <= 7; what++) all.append(x.now(what)).append(' ');
        for (int what = 0; what <= 1; what++) all.append(x.unseen(what)).append(' ').append(x.best(what)).append(' ');
        all.append(x.next());
        for (int u = 0; u < nodes; u++) {
            all.append('\n');
            for (int what = 0; what <= 4; what++) all.append(x.node(u, what)).append(' ');
            for (int v = 0; v < nodes; v++) if (v != u) all.append(x.edge(u, v));
            asked += 5 + nodes - 1;
        }
        return asked;
    }

    // ---- states

    private static List<List<Call>> states() {
        List<List<Call>> all = new ArrayList<>();
        all.add(List.of());
        all.add(typed("n1;", List.of(does("graph()", x -> x.graph()), does("ranks()", x -> x.ranks()))));
        all.add(typed("n3;r", List.of(sees(0, 1, 1), sees(1, 0, 0), keep(0), keep(1))));
        all.add(inTheMiddle());
        all.add(allFull());
        all.add(allEdges());
        all.add(typed("n2;e0 1;e1 0" + " ".repeat(107) + ";", List.of(adds(0, 1), adds(2, 3), keep(0))));
        return all;
    }

    private static List<Call> inTheMiddle() {
        List<Call> calls = typed("n5;e0 1;e1 2;r3;", List.of(does("graph()", x -> x.graph())));
        calls.add(adds(3, 4));
        calls.add(keep(0));
        calls.add(does("ranks()", x -> x.ranks()));
        calls.add(does("cuts(0, 1)", x -> x.cuts(0, 1)));
        calls.add(sees(0, 2, 0));
        calls.add(sees(3, 1, 1));
        calls.addAll(typed("n3;e0", List.of()));
        return calls;
    }

    private static List<Call> allFull() {
        List<Call> calls = typed("n6;e5 0;r5;", List.of(does("graph()", x -> x.graph()), keep(1)));
        for (int v = 1; v <= 5; v++) calls.add(adds(0, v));
        calls.add(does("ranks()", x -> x.ranks()));
        for (int v = 2; v <= 5; v++) calls.add(adds(1, v));
        calls.add(keep(0));
        calls.add(does("cuts(0, 1)", x -> x.cuts(0, 1)));
        for (int v = 0; v <= 5; v++) calls.add(sees(2, v, v == 4 ? 0 : 1));
        calls.addAll(typed("n3;e0 1;" + " ".repeat(109) + "r2;", List.of()));
        return calls;
    }

    private static List<Call> allEdges() {
        List<Call> calls = typed("n12;", List.of(does("graph()", x -> x.graph())));
        for (int u = 0; u < 12; u++) for (int v = 0; v < 12; v++) if (u != v) calls.add(adds(u, v));
        calls.add(keep(1));
        calls.addAll(typed("r0;r0;", List.of()));
        return calls;
    }

    private static List<Call> typed(String text, List<Call> more) {
        List<Call> calls = new ArrayList<>();
        for (char letter : text.toCharArray()) calls.add(does("type(" + (int) letter + ")", x -> x.type(letter)));
        calls.addAll(more);
        return calls;
    }

    private static List<List<Call>> continuations() {
        List<List<Call>> all = new ArrayList<>();
        Call undo = does("undo()", x -> x.undo());
        List<Call> undone = new ArrayList<>();
        for (int i = 0; i <= 11; i++) {
            all.add(List.copyOf(undone));
            undone.add(undo);
        }
        Call graph = does("graph()", x -> x.graph());
        all.add(List.of(graph));
        all.add(typed(" 1;", List.of(graph)));
        all.add(List.of(does("back(0)", x -> x.back(0))));
        all.add(List.of(does("back(1)", x -> x.back(1))));
        all.add(List.of(sees(0, 0, 1), does("forget()", x -> x.forget())));
        all.add(List.of(does("clear()", x -> x.clear()), graph));
        return all;
    }

    // ---- calls

    private static Call does(String name, ToIntFunction<ReachLabels> made) {
        return new Call(name, false, made);
    }

    private static Call asks(String name, ToIntFunction<ReachLabels> made) {
        return new Call(name, true, made);
    }

    private static Call adds(int u, int v) {
        return does("adds(" + u + ", " + v + ")", x -> x.adds(u, v));
    }

    private static Call keep(int image) {
        return does("keep(" + image + ")", x -> x.keep(image));
    }

    private static Call sees(int u, int v, int came) {
        return does("sees(" + u + ", " + v + ", " + came + ")", x -> x.sees(u, v, came));
    }

    /** Calls of each kind with numbers right and wrong; which of them are refused, the state says. */
    private static List<Call> candidates(int nodes) {
        List<Call> all = new ArrayList<>();
        all.add(does("graph()", x -> x.graph()));
        all.add(does("undo()", x -> x.undo()));
        all.add(asks("next()", x -> x.next()));
        for (int number : new int[] {
            Check.MIN, -2, -1, 0, 1, 2, 3, 4, 5, 6, 7, 8, 110, 255, 256, 366, Check.MAX}) {
            ofOne(all, number);
        }
        int[][] two = {
            {0, 1}, {1, 0}, {nodes - 1, 0}, {0, 0}, {nodes - 1, nodes - 1}, {-1, 0}, {0, -1}, {nodes, 0}, {0, nodes},
            {32, 1}, {1, 32}, {Check.MIN, 0}, {0, Check.MIN}, {Check.MAX, 0}, {0, Check.MAX}, {nodes, nodes}};
        for (int[] pair : two) ofTwo(all, pair[0], pair[1]);
        return all;
    }

    private static void ofOne(List<Call> all, int i) {
        all.add(does("type(" + i + ")", x -> x.type(i)));
        all.add(does("keep(" + i + ")", x -> x.keep(i)));
        all.add(does("back(" + i + ")", x -> x.back(i)));
        all.add(asks("now(" + i + ")", x -> x.now(i)));
        all.add(asks("best(" + i + ")", x -> x.best(i)));
        all.add(asks("unseen(" + i + ")", x -> x.unseen(i)));
        all.add(asks("count(" + i + ")", x -> x.count(i)));
        all.add(asks("node(0, " + i + ")", x -> x.node(0, i)));
        all.add(asks("node(" + i + ", 2)", x -> x.node(i, 2)));
        all.add(asks("way(0, 0, " + i + ")", x -> x.way(0, 0, i)));
        all.add(asks("on(0, 0, " + i + ")", x -> x.on(0, 0, i)));
        all.add(asks("loss(0, 1, " + i + ")", x -> x.loss(0, 1, i)));
        all.add(asks("odds(" + i + ", 0, 0, 0)", x -> x.odds(i, 0, 0, 0)));
        all.add(asks("odds(1, 0, 0, " + i + ")", x -> x.odds(1, 0, 0, i)));
        all.add(sees(0, 0, i));
    }

    private static void ofTwo(List<Call> all, int u, int v) {
        String two = "(" + u + ", " + v;
        all.add(adds(u, v));
        all.add(does("cuts" + two + ")", x -> x.cuts(u, v)));
        all.add(sees(u, v, 0));
        all.add(sees(u, v, 1));
        all.add(asks("edge" + two + ")", x -> x.edge(u, v)));
        all.add(asks("comes" + two + ")", x -> x.comes(u, v)));
        all.add(asks("hub" + two + ")", x -> x.hub(u, v)));
        all.add(asks("gain" + two + ")", x -> x.gain(u, v)));
        for (int k = -1; k <= 1; k++) {
            int what = k;
            all.add(asks("way" + two + ", " + k + ")", x -> x.way(u, v, what)));
            all.add(asks("on" + two + ", " + k + ")", x -> x.on(u, v, what)));
            all.add(asks("loss" + two + ", " + k + ")", x -> x.loss(u, v, what)));
            all.add(asks("odds(5, " + two.substring(1) + ", " + k + ")", x -> x.odds(5, u, v, what)));
        }
    }
}
