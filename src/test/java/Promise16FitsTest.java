/** Promise 16: fits. */
public final class Promise16FitsTest {
    private static final Check CHECK = new Check();

    private Promise16FitsTest() {
    }

    public static void main(String[] args) {
        withAllRules();
        withNoRules();
        withoutATree();
        notWithOneOfMany();
        falseForNoSuchPattern();
        falseForNoValue();
        changesNothing();
        CHECK.end();
    }

    private static void withAllRules() {
        CHECK.sentence(16, "Whether a value goes together with all rules' patterns");
        RuleTree x = new RuleTree();
        int one = x.constant(0, 1);
        int two = x.constant(0, 2);
        int letter = x.constant(1, 1);
        x.rule(x.any());
        x.rule(Make.pair(x, one, -1));
        x.rule(Make.pair(x, -1, letter));
        CHECK.due("(1, letter)", x.fits(Make.pair(x, one, letter)), true);
        CHECK.due("(2, letter), which need not match", x.fits(Make.pair(x, two, letter)), true);
        CHECK.due("(2, 2)", x.fits(Make.pair(x, two, two)), false);
        CHECK.due("(letter, letter)", x.fits(Make.pair(x, letter, letter)), false);
        CHECK.due("1", x.fits(one), false);
        CHECK.due("(1, letter, 1)", x.fits(Make.recordWith(x, one, letter, one)), false);
    }

    private static void withNoRules() {
        CHECK.sentence(16, "Whether a value goes together with all .. of none");
        RuleTree x = new RuleTree();
        x.family(1, 0);
        CHECK.due("a constant", x.fits(x.constant(3, Integer.MIN_VALUE)), true);
        CHECK.due("built", x.fits(x.built(0, 0, -1)), true);
        CHECK.due("a name", x.fits(x.name(0, -1)), true);
        CHECK.due("a record", x.fits(x.record(0)), true);
    }

    private static void withoutATree() {
        CHECK.sentence(16, "Whether a value goes together .. also without a tree");
        RuleTree x = new RuleTree();
        int one = x.constant(0, 1);
        int letter = x.constant(1, 1);
        x.rule(one);
        CHECK.due("its own", x.fits(one), true);
        CHECK.due("another sort", x.fits(letter), false);
        x.grow();
        CHECK.due("its own, with a tree", x.fits(one), true);
        CHECK.due("another sort, with a tree", x.fits(letter), false);
        x.clear();
        CHECK.due("another sort, after clear()", x.fits(letter), true);
    }

    private static void notWithOneOfMany() {
        CHECK.sentence(16, "all rules' patterns .. the first, the last and those between");
        RuleTree x = new RuleTree();
        int one = x.constant(0, 1);
        int letter = x.constant(1, 1);
        x.rule(Make.recordWith(x, one, -1, -1));
        x.rule(Make.recordWith(x, -1, one, -1));
        x.rule(Make.recordWith(x, -1, -1, one));
        CHECK.due("with all", x.fits(Make.recordWith(x, one, one, one)), true);
        CHECK.due("not with the first", x.fits(Make.recordWith(x, letter, one, one)), false);
        CHECK.due("not with the second", x.fits(Make.recordWith(x, one, letter, one)), false);
        CHECK.due("not with the last", x.fits(Make.recordWith(x, one, one, letter)), false);
        x.rule(Make.recordWith(x, one, one, one));
        CHECK.due("with none", x.fits(Make.recordWith(x, letter, letter, letter)), false);
        CHECK.due("with all", x.fits(Make.recordWith(x, one, one, one)), true);
    }

    private static void falseForNoSuchPattern() {
        CHECK.sentence(16, "false also when there is no such pattern");
        RuleTree x = new RuleTree();
        int value = x.record(0);
        CHECK.due("the last pattern", x.fits(value), true);
        int[] patterns = {value + 1, -1, -2, -3, Integer.MIN_VALUE, 16383, 16384, Integer.MAX_VALUE};
        for (int pattern : patterns) {
            CHECK.due("fits(" + pattern + ")", x.fits(pattern), false);
        }
    }

    private static void falseForNoValue() {
        CHECK.sentence(16, "false also when .. it is no value");
        RuleTree x = new RuleTree();
        x.family(1, 1);
        int any = x.any();
        int one = x.constant(0, 1);
        CHECK.due("ANY", x.fits(any), false);
        CHECK.due("built of ANY", x.fits(x.built(0, 0, any)), false);
        CHECK.due("a name of ANY", x.fits(x.name(0, any)), false);
        CHECK.due("a record of ANY", x.fits(Make.pair(x, one, any)), false);
        CHECK.due("a field without a pattern", x.fits(Make.pair(x, one, -1)), false);
        CHECK.due("a value", x.fits(Make.pair(x, one, one)), true);
    }

    private static void changesNothing() {
        CHECK.sentence(16, "Whether a value goes together .. and nothing changes");
        Twins.unchanged(CHECK, Scenes.RICH, "fits, yes", x -> x.fits(Scenes.ONE_LEAF) ? 1 : 0, 1);
        Twins.unchanged(CHECK, Scenes.RICH, "fits, no", x -> x.fits(Scenes.NAME) ? 1 : 0, 0);
        Twins.unchanged(CHECK, Scenes.UNGROWN, "fits, yes", x -> x.fits(Scenes.ONE_LEAF) ? 1 : 0, 1);
        Twins.unchangedInAllScenes(CHECK, "fits(-1)", x -> x.fits(-1) ? 1 : 0, 0);
        Twins.unchangedInAllScenes(CHECK, "fits(MIN)", x -> x.fits(Integer.MIN_VALUE) ? 1 : 0, 0);
        Twins.unchangedInAllScenes(CHECK, "fits(MAX)", x -> x.fits(Integer.MAX_VALUE) ? 1 : 0, 0);
        Twins.unchangedInAllScenes(CHECK, "fits(the next)", x -> x.fits(x.count(1)) ? 1 : 0, 0);
    }
}
