import java.util.LinkedHashMap;
import java.util.Map;
import java.util.function.Function;
import java.util.function.IntUnaryOperator;
import java.util.function.Supplier;

/**
 * Whether two objects can be told apart. Both get the same further calls, of every kind and with
 * good and bad arguments, so that also the grammar and the current alternative, which no call
 * tells, come to light in later answers.
 */
final class Traces {
    private interface Follower {
        String answers(IncrementalPackrat x);
    }

    /**
     * Each gets two objects of its own. Those that make one kind of call alone are for the calls
     * that only read: if one of them changed something, the others would not hide it.
     */
    private static final Map<String, Follower> FOLLOWERS = new LinkedHashMap<>();

    static {
        FOLLOWERS.put("isCompiled", x -> String.valueOf(x.isCompiled()));
        FOLLOWERS.put("textLength", x -> String.valueOf(x.textLength()));
        FOLLOWERS.put("charAt", x -> eachOf(x::charAt));
        FOLLOWERS.put("furthest", x -> String.valueOf(x.furthest()));
        FOLLOWERS.put("nodeCount", x -> String.valueOf(x.nodeCount()));
        FOLLOWERS.put("nodeRule", x -> eachOf(x::nodeRule));
        FOLLOWERS.put("nodeStart", x -> eachOf(x::nodeStart));
        FOLLOWERS.put("nodeEnd", x -> eachOf(x::nodeEnd));
        FOLLOWERS.put("nodeParent", x -> eachOf(x::nodeParent));
        FOLLOWERS.put("reading all", Checks::stateOf);
        FOLLOWERS.put("editing", Traces::edit);
        FOLLOWERS.put("compiling and parsing", Traces::parseAll);
        FOLLOWERS.put("building on", x -> build(x) + parseAll(x));
    }

    private Traces() {
    }

    static void alike(Checks c, String what, Supplier<IncrementalPackrat> one, Supplier<IncrementalPackrat> other) {
        FOLLOWERS.forEach((name, follower) ->
            c.due(what + ", then " + name, follower.answers(one.get()), follower.answers(other.get())));
    }

    /** The call answers what is due, and nothing is changed by it. */
    static void none(Checks c, String name, Supplier<IncrementalPackrat> make,
            Function<IncrementalPackrat, Object> call, Object want) {
        Supplier<IncrementalPackrat> called = () -> {
            IncrementalPackrat x = make.get();
            c.due(name, String.valueOf(call.apply(x)), String.valueOf(want));
            return x;
        };
        alike(c, name, called, make);
    }

    /** The same in both phases and with each kind of stored outcome. */
    static void noneInAnyScene(Checks c, String name, String text, Function<IncrementalPackrat, Object> call,
            Object want) {
        for (int scene : Scenes.ALL) {
            none(c, name + " " + Scenes.name(scene), () -> Scenes.make(scene, text), call, want);
        }
    }

    private static String eachOf(IntUnaryOperator accessor) {
        StringBuilder s = new StringBuilder();
        for (int i = -2; i <= 66; i++) {
            s.append(' ').append(accessor.applyAsInt(i));
        }
        return s.toString();
    }

    private static String edit(IncrementalPackrat x) {
        StringBuilder s = new StringBuilder();
        s.append(x.insertChar(0, 'b')).append(Checks.stateOf(x));
        s.append(x.insertChar(x.textLength(), 'c')).append(Checks.stateOf(x));
        s.append(x.deleteRange(0, 1)).append(Checks.stateOf(x));
        s.append(x.replaceRange(0, 1, 'd')).append(Checks.stateOf(x));
        for (int i = 0; i < 30; i++) {
            s.append(x.insertChar(i / 2, (char) ('e' + i % 20)));
        }
        s.append(Checks.stateOf(x));
        s.append(x.deleteRange(0, x.textLength())).append(Checks.stateOf(x));
        return s.toString();
    }

    private static String build(IncrementalPackrat x) {
        StringBuilder s = new StringBuilder();
        for (int i = 0; i <= IncrementalPackrat.MAX_ITEMS; i++) {
            s.append(' ').append(x.addItem(IncrementalPackrat.KIND_CHAR, 'a', 0, IncrementalPackrat.MODE_ONE));
        }
        for (int i = 0; i <= IncrementalPackrat.MAX_ALTS; i++) {
            s.append(' ').append(x.newAlt(i % 9));
            s.append(' ').append(x.addItem(IncrementalPackrat.KIND_RANGE, 'a' + i, 'z', IncrementalPackrat.MODE_PLUS));
        }
        return s.append(Checks.stateOf(x)).toString();
    }

    private static String parseAll(IncrementalPackrat x) {
        StringBuilder s = new StringBuilder();
        s.append(' ').append(x.compile()).append(' ').append(x.isCompiled());
        for (int r = -1; r <= 8; r++) {
            for (int p = -1; p <= x.textLength() + 1; p++) {
                s.append(' ').append(x.parse(r, p)).append(' ').append(x.furthest()).append(' ');
                s.append(Checks.treeOf(x));
            }
        }
        return s.append(Checks.stateOf(x)).toString();
    }
}
