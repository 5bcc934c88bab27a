/** Promise 5: isCompiled. */
public final class IsCompiledTest {
    private final Checks c = new Checks("IsCompiledTest");

    private void tellsThePhase() {
        c.sentence("isCompiled() answers true iff the phase is FROZEN.");
        IncrementalPackrat x = new IncrementalPackrat(2, 8);
        c.due("at start", x.isCompiled(), false);
        Grammars.add(x, "0 = #1*", "1 = a?");
        Checks.append(x, "ab");
        x.replaceRange(0, 1, 'a');
        x.deleteRange(1, 1);
        c.due("after building and edits", x.isCompiled(), false);
        x.parse(0, 0);
        c.due("after a refused parse", x.isCompiled(), false);
        x.compile();
        c.due("after a bad repeat", x.isCompiled(), false);
        IncrementalPackrat recursive = Grammars.building(2, 8, "0 = #0");
        recursive.compile();
        c.due("after a left recursion", recursive.isCompiled(), false);

        IncrementalPackrat y = Grammars.building(2, 8, "0 = #1*", "1 = a");
        y.compile();
        c.due("after compile", y.isCompiled(), true);
        y.compile();
        c.due("after a second compile", y.isCompiled(), true);
        y.newAlt(0);
        y.addItem(IncrementalPackrat.KIND_ANY, 0, 0, IncrementalPackrat.MODE_ONE);
        c.due("after refused building calls", y.isCompiled(), true);
        Checks.append(y, "ab");
        y.replaceRange(0, 2, 'a');
        y.parse(0, 0);
        y.parse(0, 9);
        y.deleteRange(0, 1);
        c.due("after edits and parses", y.isCompiled(), true);
        c.due("another object", new IncrementalPackrat(2, 8).isCompiled(), false);
    }

    private void changesNothing() {
        c.sentence("It changes nothing.");
        for (int scene : Scenes.ALL) {
            Traces.none(c, "isCompiled " + Scenes.name(scene), () -> Scenes.make(scene, "abca"), x -> x.isCompiled(),
                scene != Scenes.BUILDING);
        }
    }

    public static void main(String[] args) {
        IsCompiledTest t = new IsCompiledTest();
        t.c.run(t::tellsThePhase, t::changesNothing);
    }
}
