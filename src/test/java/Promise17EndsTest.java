/** Promise 17: ends. */
public final class Promise17EndsTest {
    private static final Check CHECK = new Check();

    private Promise17EndsTest() {
    }

    public static void main(String[] args) {
        howManyEnds();
        ofARuleThatNoValueHas();
        ofNoRule();
        ofNoRules();
        noneWithoutATree();
        noneForNoSuchRule();
        changesNothing();
        CHECK.end();
    }

    private static void howManyEnds() {
        CHECK.sentence(17, "How many ends of the tree have a rule");
        RuleTree x = new RuleTree();
        int one = x.constant(0, 1);
        x.rule(Make.pair(x, one, one));
        x.rule(Make.pair(x, -1, one));
        x.rule(x.any());
        CHECK.due("grow()", x.grow(), 7);
        CHECK.due("ends(0)", x.ends(0), 1);
        CHECK.due("ends(1)", x.ends(1), 1);
        CHECK.due("ends(2)", x.ends(2), 2);
        CHECK.due("ends(-1)", x.ends(-1), 0);
    }

    private static void ofARuleThatNoValueHas() {
        CHECK.sentence(17, "How many ends of the tree have a rule .. 0 when no value has it");
        RuleTree x = new RuleTree();
        int one = x.constant(0, 1);
        x.rule(one);
        x.rule(one);
        x.rule(x.any());
        x.rule(x.constant(0, 2));
        CHECK.due("grow()", x.grow(), 4);
        CHECK.due("ends(0)", x.ends(0), 1);
        CHECK.due("ends(1), behind its like", x.ends(1), 0);
        CHECK.due("ends(2)", x.ends(2), 2);
        CHECK.due("ends(3), behind ANY", x.ends(3), 0);
        CHECK.due("ends(-1)", x.ends(-1), 0);
    }

    private static void ofNoRule() {
        CHECK.sentence(17, "(NONE: no rule)");
        RuleTree x = new RuleTree();
        int one = x.constant(0, 1);
        x.rule(Make.pair(x, one, one));
        x.grow();
        CHECK.due("ends(NONE)", x.ends(RuleTree.NONE), 2);
        CHECK.due("ends(0)", x.ends(0), 1);
        x.rule(x.any());
        x.grow();
        CHECK.due("ends(NONE), nothing is missing", x.ends(RuleTree.NONE), 0);
    }

    private static void ofNoRules() {
        CHECK.sentence(17, "(NONE: no rule) .. of a tree of no rules");
        RuleTree x = new RuleTree();
        x.grow();
        CHECK.due("ends(-1)", x.ends(-1), 1);
        CHECK.due("ends(0)", x.ends(0), -1);
    }

    private static void noneWithoutATree() {
        CHECK.sentence(17, "NONE when there is no tree");
        RuleTree x = new RuleTree();
        int one = x.constant(0, 1);
        CHECK.due("of a new object, ends(-1)", x.ends(-1), -1);
        CHECK.due("of a new object, ends(0)", x.ends(0), -1);
        x.rule(one);
        CHECK.due("before grow(), ends(-1)", x.ends(-1), -1);
        CHECK.due("before grow(), ends(0)", x.ends(0), -1);
        x.grow();
        CHECK.due("after grow(), ends(0)", x.ends(0), 1);
        x.rule(one);
        CHECK.due("after another rule, ends(0)", x.ends(0), -1);
        x.grow();
        x.clear();
        CHECK.due("after clear(), ends(-1)", x.ends(-1), -1);
        CHECK.due("after clear(), ends(0)", x.ends(0), -1);
    }

    private static void noneForNoSuchRule() {
        CHECK.sentence(17, "NONE when there is .. no such rule");
        RuleTree x = new RuleTree();
        x.rule(x.any());
        x.rule(0);
        x.grow();
        CHECK.due("the first rule", x.ends(0), 1);
        CHECK.due("the last rule", x.ends(1), 0);
        int[] rules = {2, 3, -2, -3, 1023, 1024, Integer.MIN_VALUE, Integer.MAX_VALUE};
        for (int rule : rules) {
            CHECK.due("ends(" + rule + ")", x.ends(rule), -1);
        }
    }

    private static void changesNothing() {
        CHECK.sentence(17, "How many ends .. and nothing changes");
        Twins.unchanged(CHECK, Scenes.RICH, "ends(0)", x -> x.ends(0), 1);
        Twins.unchanged(CHECK, Scenes.RICH, "ends(1)", x -> x.ends(1), 1);
        Twins.unchanged(CHECK, Scenes.RICH, "ends(-1)", x -> x.ends(-1), 3);
        Twins.unchanged(CHECK, Scenes.RICH, "ends(2)", x -> x.ends(2), -1);
        Twins.unchanged(CHECK, Scenes.UNGROWN, "ends(0)", x -> x.ends(0), -1);
        Twins.unchangedInAllScenes(CHECK, "ends(-2)", x -> x.ends(-2), -1);
        Twins.unchangedInAllScenes(CHECK, "ends(MIN)", x -> x.ends(Integer.MIN_VALUE), -1);
        Twins.unchangedInAllScenes(CHECK, "ends(MAX)", x -> x.ends(Integer.MAX_VALUE), -1);
        Twins.unchangedInAllScenes(CHECK, "ends(the next)", x -> x.ends(x.count(3)), -1);
    }
}
