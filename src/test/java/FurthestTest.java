/** Promise 12: furthest. */
public final class FurthestTest {
    private final Checks c = new Checks("FurthestTest");

    private void atStart() {
        c.sentence("furthest() answers F: -1 at start");
        c.due("at start", new IncrementalPackrat(8, 24).furthest(), -1);
        c.due("after building", Scenes.make(Scenes.BUILDING, "abca").furthest(), -1);
        c.due("after compile", Scenes.make(Scenes.FROZEN, "abca").furthest(), -1);
        IncrementalPackrat x = new IncrementalPackrat(1, 8);
        x.parse(0, 0);
        c.due("after a refused parse at start", x.furthest(), -1);
    }

    private void afterEdits() {
        c.sentence("and after every successful edit,");
        IncrementalPackrat x = Grammars.compiled(1, 8, "0 = a b");
        x.parse(0, 0);
        c.due("after a parse of the empty text", x.furthest(), 0);
        x.insertChar(0, 'a');
        c.due("after an insert", x.furthest(), -1);
        x.parse(0, 0);
        c.due("after a failure", x.furthest(), 1);
        x.replaceRange(0, 1, 'a');
        c.due("after a replace by the same char", x.furthest(), -1);
        x.parse(0, 1);
        c.due("after a failure at the text's end", x.furthest(), 1);
        x.deleteRange(0, 1);
        c.due("after a delete", x.furthest(), -1);
    }

    private void afterParses() {
        c.sentence("otherwise the value set by the last non-refused parse.");
        IncrementalPackrat x = Grammars.compiled(3, 8, "0 = a b", "1 =", "2 = .*");
        Checks.append(x, "aba");
        int[][] rows = {{0, 0, 1}, {0, 1, 1}, {0, 2, 3}, {0, 3, 3}, {1, 0, -1}, {1, 3, -1}, {2, 0, 3}, {2, 3, 3},
            {0, 0, 1}};
        for (int[] row : rows) {
            x.parse(row[0], row[1]);
            c.due("F of parse(" + row[0] + ", " + row[1] + ")", x.furthest(), row[2]);
            x.parse(row[0], 4);
            x.parse(3, row[1]);
            x.parse(-1, -1);
            c.due("F after refused parses", x.furthest(), row[2]);
            x.insertChar(4, 'a');
            x.deleteRange(3, 1);
            x.replaceRange(0, 0, 'a');
            c.due("F after refused edits", x.furthest(), row[2]);
            x.newAlt(0);
            x.addItem(2, 0, 0, 0);
            x.compile();
            c.due("F after refused building calls", x.furthest(), row[2]);
        }
    }

    private void changesNothing() {
        c.sentence("It changes nothing.");
        int[] due = {-1, -1, 3, 0};
        for (int scene : Scenes.ALL) {
            Traces.none(c, "furthest() " + Scenes.name(scene), () -> Scenes.make(scene, "abca"), x -> x.furthest(),
                due[scene]);
        }
    }

    public static void main(String[] args) {
        FurthestTest t = new FurthestTest();
        t.c.run(t::atStart, t::afterEdits, t::afterParses, t::changesNothing);
    }
}
