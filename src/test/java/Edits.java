import java.util.function.Function;
import java.util.function.Supplier;

/** What the tests of the three edits share. */
final class Edits {
    private Edits() {
    }

    /**
     * The edit is done, in both phases and with each kind of stored outcome: then the object is as
     * one that has had the new text from the first, and no outcome.
     */
    static void done(Checks c, String name, String text, Function<IncrementalPackrat, Object> edit, String want) {
        for (int scene : Scenes.ALL) {
            String call = name + " in '" + text + "' " + Scenes.name(scene);
            Supplier<IncrementalPackrat> edited = () -> {
                IncrementalPackrat x = Scenes.make(scene, text);
                c.due(call, String.valueOf(edit.apply(x)), "true");
                return x;
            };
            c.due(call + ": text", Checks.textOf(edited.get()), want);
            c.due(call + ": textLength", edited.get().textLength(), want.length());
            int phase = scene == Scenes.BUILDING ? Scenes.BUILDING : Scenes.FROZEN;
            Traces.alike(c, call, edited, () -> Scenes.make(phase, want));
        }
    }

    static void refused(Checks c, String name, String text, Function<IncrementalPackrat, Object> edit) {
        Traces.noneInAnyScene(c, name + " in '" + text + "'", text, edit, false);
    }

    /** F = -1 and K = 0 after the edit, where both were other values before it. */
    static void forgets(Checks c, String name, String text, Function<IncrementalPackrat, Object> edit) {
        IncrementalPackrat x = Scenes.make(Scenes.SUCCEEDED, text);
        c.due("furthest before " + name, x.furthest() >= 0, true);
        c.due("nodeCount before " + name, x.nodeCount() > 0, true);
        edit.apply(x);
        c.due("furthest after " + name, x.furthest(), -1);
        c.due("nodeCount after " + name, x.nodeCount(), 0);
        for (int i = 0; i < 5; i++) {
            c.due("node " + i + " after " + name, Checks.nodeOf(x, i), "-1 -1 -1 -1");
        }
        IncrementalPackrat y = Scenes.make(Scenes.FAILED, text);
        c.due("furthest before " + name + " after a failure", y.furthest() >= 0, true);
        edit.apply(y);
        c.due("furthest after " + name + " after a failure", y.furthest(), -1);
        c.due("nodeCount after " + name + " after a failure", y.nodeCount(), 0);
    }
}
