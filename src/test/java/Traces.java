import java.util.function.Function;
import java.util.function.Supplier;

/**
 * Whether two objects can be told apart. Both get the same further calls, of every kind and with
 * good and bad arguments, so that also the grammar and the current alternative, which no call
 * tells, come to light in later answers.
 */
final class Traces {
    private static final String[] FOLLOWERS = {"reading", "editing", "compiling and parsing", "building on"};

    private Traces() {
    }

    static void alike(Checks c, String what, Supplier<IncrementalPackrat> one, Supplier<IncrementalPackrat> other) {
        for (String follower : FOLLOWERS) {
            c.due(what + ", then " + follower, answers(follower, one.get()), answers(follower, other.get()));
        }
    }

    /** The call answers what is due, and nothing is changed by it. */
    static void none(Checks c, String name, Supplier<IncrementalPackrat> make,
            Function<IncrementalPackrat, Object> call, Object want) {
        Supplier<IncrementalPackrat> called = () -> {
            IncrementalPackrat x = make.get();
            c.due(name, String.valueOf(call.apply(x)), String.valueOf(want));
            return x;
        };
        alike(c, name, called, make);
    }

    /** The same in both phases and with each kind of stored outcome. */
    static void noneInAnyScene(Checks c, String name, String text, Function<IncrementalPackrat, Object> call,
            Object want) {
        for (int scene : Scenes.ALL) {
            none(c, name + " " + Scenes.name(scene), () -> Scenes.make(scene, text), call, want);
        }
    }

    private static String answers(String follower, IncrementalPackrat x) {
        StringBuilder s = new StringBuilder();
        switch (follower) {
            case "reading":
                return Checks.stateOf(x);
            case "editing":
                edit(x, s);
                break;
            case "building on":
                build(x, s);
                parseAll(x, s);
                break;
            default:
                parseAll(x, s);
        }
        return s.toString();
    }

    private static void edit(IncrementalPackrat x, StringBuilder s) {
        s.append(x.insertChar(0, 'b')).append(Checks.stateOf(x));
        s.append(x.insertChar(x.textLength(), 'c')).append(Checks.stateOf(x));
        s.append(x.deleteRange(0, 1)).append(Checks.stateOf(x));
        s.append(x.replaceRange(0, 1, 'd')).append(Checks.stateOf(x));
        for (int i = 0; i < 30; i++) {
            s.append(x.insertChar(i / 2, (char) ('e' + i % 20)));
        }
        s.append(Checks.stateOf(x));
        s.append(x.deleteRange(0, x.textLength())).append(Checks.stateOf(x));
    }

    private static void build(IncrementalPackrat x, StringBuilder s) {
        for (int i = 0; i <= IncrementalPackrat.MAX_ITEMS; i++) {
            s.append(' ').append(x.addItem(IncrementalPackrat.KIND_CHAR, 'a', 0, IncrementalPackrat.MODE_ONE));
        }
        for (int i = 0; i <= IncrementalPackrat.MAX_ALTS; i++) {
            s.append(' ').append(x.newAlt(i % 9));
            s.append(' ').append(x.addItem(IncrementalPackrat.KIND_RANGE, 'a' + i, 'z', IncrementalPackrat.MODE_PLUS));
        }
        s.append(Checks.stateOf(x));
    }

    private static void parseAll(IncrementalPackrat x, StringBuilder s) {
        s.append(' ').append(x.compile()).append(' ').append(x.isCompiled());
        for (int r = -1; r <= 8; r++) {
            for (int p = -1; p <= x.textLength() + 1; p++) {
                s.append(' ').append(x.parse(r, p)).append(' ').append(x.furthest()).append(' ');
                s.append(Checks.treeOf(x));
            }
        }
        s.append(Checks.stateOf(x));
    }
}
