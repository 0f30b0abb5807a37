/** Promise 15: first. */
public final class Promise15FirstTest {
    private static final Check CHECK = new Check();

    private Promise15FirstTest() {
    }

    public static void main(String[] args) {
        theFirstRule();
        behindOneThatDiffersInAllFields();
        eachAsItStands();
        withoutATree();
        noneWhenThereIsNone();
        noneForNoSuchPattern();
        noneForNoValue();
        changesNothing();
        CHECK.end();
    }

    private static void theFirstRule() {
        CHECK.sentence(15, "The first rule whose pattern matches a value");
        RuleTree x = new RuleTree();
        int any = x.any();
        int one = x.constant(0, 1);
        int two = x.constant(0, 2);
        x.rule(two);
        x.rule(one);
        x.rule(one);
        x.rule(any);
        x.rule(two);
        CHECK.due("2, the first of two rules", x.first(two), 0);
        CHECK.due("1, the first of two rules", x.first(one), 1);
        CHECK.due("3, ANY", x.first(x.constant(0, 3)), 3);
        CHECK.due("another sort, ANY", x.first(x.record(0)), 3);
        x.clear();
        for (int rule = 0; rule < 200; rule++) {
            x.rule(x.constant(0, rule + 1));
        }
        CHECK.due("2, the second of 200", x.first(two), 1);
        CHECK.due("201, none of 200", x.first(x.constant(0, 201)), -1);
        CHECK.due("200, the last of 200", x.first(x.constant(0, 200)), 199);
    }

    private static void behindOneThatDiffersInAllFields() {
        CHECK.sentence(15, "The first rule whose pattern matches .. behind some that do not, in any field");
        RuleTree x = new RuleTree();
        int one = x.constant(0, 1);
        int two = x.constant(0, 2);
        int three = x.constant(0, 3);
        x.rule(Make.recordWith(x, one, one, one));
        x.rule(Make.recordWith(x, two, one, two));
        x.rule(Make.recordWith(x, two, two, two));
        CHECK.due("(2, 2, 2)", x.first(Make.recordWith(x, two, two, two)), 2);
        CHECK.due("(3, 3, 3)", x.first(Make.recordWith(x, three, three, three)), -1);
        CHECK.due("(1, 1, 1)", x.first(Make.recordWith(x, one, one, one)), 0);
        CHECK.due("(2, 1, 2)", x.first(Make.recordWith(x, two, one, two)), 1);
    }

    private static void eachAsItStands() {
        CHECK.sentence(15, "each being tried as it stands");
        RuleTree x = new RuleTree();
        int one = x.constant(0, 1);
        int letter = x.constant(1, 1);
        x.rule(Make.pair(x, one, one));
        x.rule(x.any());
        x.grow();
        int odd = Make.pair(x, one, letter);
        CHECK.due("run is stuck", x.run(odd), -3);
        CHECK.due("first is not", x.first(odd), 1);
        CHECK.due("run of a name is stuck", x.run(x.name(0, -1)), -3);
        CHECK.due("first of a name is not", x.first(x.name(0, -1)), 1);
    }

    private static void withoutATree() {
        CHECK.sentence(15, "The first rule .. also without a tree");
        RuleTree x = new RuleTree();
        int one = x.constant(0, 1);
        x.rule(one);
        CHECK.due("before grow()", x.first(one), 0);
        x.grow();
        CHECK.due("after grow()", x.first(one), 0);
        RuleTree y = new RuleTree();
        Scenes.OVERGROWN.accept(y);
        CHECK.due("when grow() was FULL", y.first(y.count(1) - 1), 0);
    }

    private static void noneWhenThereIsNone() {
        CHECK.sentence(15, "NONE when there is none");
        RuleTree x = new RuleTree();
        int one = x.constant(0, 1);
        CHECK.due("without rules", x.first(one), -1);
        x.rule(one);
        CHECK.due("another number", x.first(x.constant(0, 0)), -1);
        CHECK.due("another kind", x.first(x.constant(1, 1)), -1);
        x.clear();
        CHECK.due("after clear()", x.first(one), -1);
    }

    private static void noneForNoSuchPattern() {
        CHECK.sentence(15, "NONE when there is .. no such pattern");
        RuleTree x = new RuleTree();
        x.rule(x.any());
        int value = x.record(0);
        CHECK.due("the last pattern", x.first(value), 0);
        int[] patterns = {value + 1, -1, -2, -3, Integer.MIN_VALUE, 16383, 16384, Integer.MAX_VALUE};
        for (int pattern : patterns) {
            CHECK.due("first(" + pattern + ")", x.first(pattern), -1);
        }
    }

    private static void noneForNoValue() {
        CHECK.sentence(15, "NONE when .. it is no value");
        RuleTree x = new RuleTree();
        x.family(1, 1);
        int any = x.any();
        int one = x.constant(0, 1);
        x.rule(any);
        CHECK.due("ANY", x.first(any), -1);
        CHECK.due("built of ANY", x.first(x.built(0, 0, any)), -1);
        CHECK.due("a name of ANY", x.first(x.name(0, any)), -1);
        CHECK.due("a record of ANY", x.first(Make.pair(x, any, one)), -1);
        CHECK.due("a field without a pattern", x.first(Make.pair(x, -1, one)), -1);
        CHECK.due("a record without patterns", x.first(x.record(1)), -1);
        CHECK.due("a value", x.first(Make.pair(x, one, one)), 0);
    }

    private static void changesNothing() {
        CHECK.sentence(15, "The first rule whose pattern matches .. and nothing changes");
        Twins.unchanged(CHECK, Scenes.RICH, "first, a rule", x -> x.first(Scenes.ONE_NODE), 0);
        Twins.unchanged(CHECK, Scenes.UNGROWN, "first, a rule", x -> x.first(Scenes.TWO_NODE), 1);
        Twins.unchanged(CHECK, Scenes.RICH, "first, no rule", x -> x.first(Scenes.ONE_LEAF), -1);
        Twins.unchangedInAllScenes(CHECK, "first(-1)", x -> x.first(-1), -1);
        Twins.unchangedInAllScenes(CHECK, "first(MIN)", x -> x.first(Integer.MIN_VALUE), -1);
        Twins.unchangedInAllScenes(CHECK, "first(MAX)", x -> x.first(Integer.MAX_VALUE), -1);
        Twins.unchangedInAllScenes(CHECK, "first(the next)", x -> x.first(x.count(1)), -1);
    }
}
