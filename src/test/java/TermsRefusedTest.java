import java.util.function.Consumer;

/** The document's section "Terms": what is refused, or FULL, one after another on one object. */
public final class TermsRefusedTest {
    private static final int[] EDGES = {Integer.MIN_VALUE, -4, -3, -2, 129, 16384, Integer.MAX_VALUE};
    private static final Check CHECK = new Check();

    private TermsRefusedTest() {
    }

    public static void main(String[] args) {
        refusedInEveryScene();
        fullInAHeavyScene();
        fullInAnOvergrownScene();
        CHECK.end();
    }

    private static void refusedInEveryScene() {
        CHECK.term("What is refused .. changes nothing");
        for (Consumer<RuleTree> scene : Scenes.ALL) {
            RuleTree x = new RuleTree();
            scene.accept(x);
            for (int edge : EDGES) {
                refuseAll(x, edge);
            }
            RuleTree other = new RuleTree();
            scene.accept(other);
            Twins.alike(CHECK, "after all that is refused", x, other);
        }
    }

    private static void refuseAll(RuleTree x, int edge) {
        String at = " at " + edge;
        CHECK.due("family()" + at, x.family(edge, 0), -1);
        CHECK.due("family() with a bit too many" + at, x.family(1, edge), -1);
        CHECK.due("constant()" + at, x.constant(edge, 0), -1);
        CHECK.due("constant() of kind 2" + at, x.constant(2, Math.min(-edge, edge)), -1);
        CHECK.due("built(), family" + at, x.built(edge, 0, -1), -1);
        CHECK.due("built(), tag" + at, x.built(0, edge, -1), -1);
        CHECK.due("built(), of" + at, x.built(0, 1, edge), -1);
        CHECK.due("name()" + at, x.name(Math.min(-edge, edge), -1), -1);
        CHECK.due("name(), of" + at, x.name(0, edge), -1);
        CHECK.due("push(), field" + at, x.push(edge, 0), -1);
        CHECK.due("push(), pattern" + at, x.push(1, edge), -1);
        CHECK.due("record()" + at, x.record(edge), -1);
        CHECK.due("rule()" + at, x.rule(edge), -1);
    }

    private static void fullInAHeavyScene() {
        CHECK.term("What is .. FULL, changes nothing");
        RuleTree x = new RuleTree();
        Scenes.HEAVY.accept(x);
        int heaviest = Scenes.heaviest(x);
        for (int i = 0; i < 20; i++) {
            CHECK.due("built() of 10,000", x.built(0, 1, heaviest), -2);
            CHECK.due("name() of 10,000", x.name(i, heaviest), -2);
            CHECK.due("record() of more", x.record(128 - i), -2);
            CHECK.due("rule() of 1", x.rule(0), -2);
            CHECK.due("rule() of 10,000", x.rule(heaviest), -2);
        }
        RuleTree other = new RuleTree();
        Scenes.HEAVY.accept(other);
        Twins.alike(CHECK, "after all that is FULL", x, other);
    }

    private static void fullInAnOvergrownScene() {
        CHECK.term("What is .. FULL, changes nothing but what is said there");
        RuleTree x = new RuleTree();
        Scenes.OVERGROWN.accept(x);
        for (int i = 0; i < 20; i++) {
            CHECK.due("grow()", x.grow(), -2);
        }
        RuleTree other = new RuleTree();
        Scenes.OVERGROWN.accept(other);
        Twins.alike(CHECK, "after grow() is FULL", x, other);
    }
}
