/** Promise 13: run. */
public final class Promise13RunTest {
    private static final Check CHECK = new Check();

    private Promise13RunTest() {
    }

    public static void main(String[] args) {
        theRuleThatTheTreeTells();
        noneWhenTheTreeTellsNone();
        noneWithoutATree();
        noneForNoSuchPattern();
        noneForNoValue();
        stuckAtAnotherSort();
        stuckAtAnotherSortInside();
        stuckWithoutTheRulesRecord();
        stuckInRecordsOfRecords();
        stuckAtANameWithAnArgument();
        stuckAtANameWithoutAnArgument();
        notStuckAtOtherNames();
        notStuckAtWhatIsNotLookedAt();
        changesNothing();
        CHECK.end();
    }

    private static void theRuleThatTheTreeTells() {
        CHECK.sentence(13, "The rule that the tree tells for a value");
        RuleTree x = new RuleTree();
        int one = x.constant(0, 1);
        int two = x.constant(0, 2);
        x.rule(Make.pair(x, one, two));
        x.rule(Make.pair(x, -1, two));
        x.rule(Make.pair(x, one, -1));
        x.grow();
        CHECK.due("(1, 2)", x.run(Make.pair(x, one, two)), 0);
        CHECK.due("(2, 2)", x.run(Make.pair(x, two, two)), 1);
        CHECK.due("(1, 1)", x.run(Make.pair(x, one, one)), 2);
        CHECK.due("(2, 1)", x.run(Make.pair(x, two, one)), -1);
    }

    private static void noneWhenTheTreeTellsNone() {
        CHECK.sentence(13, "NONE when it tells that there is none");
        RuleTree x = new RuleTree();
        int one = x.constant(0, 1);
        x.grow();
        CHECK.due("of no rules", x.run(one), -1);
        x.rule(one);
        x.grow();
        CHECK.due("another constant", x.run(x.constant(0, 0)), -1);
        CHECK.due("another constant, MIN", x.run(x.constant(0, Integer.MIN_VALUE)), -1);
        CHECK.due("another constant, MAX", x.run(x.constant(0, Integer.MAX_VALUE)), -1);
        CHECK.due("its own", x.run(one), 0);
    }

    private static void noneWithoutATree() {
        CHECK.sentence(13, "NONE when .. there is no tree");
        RuleTree x = new RuleTree();
        int one = x.constant(0, 1);
        int letter = x.constant(1, 1);
        CHECK.due("of a new object", x.run(one), -1);
        x.rule(one);
        CHECK.due("before grow()", x.run(one), -1);
        CHECK.due("before grow(), not STUCK either", x.run(letter), -1);
        x.grow();
        CHECK.due("after grow()", x.run(one), 0);
        x.rule(one);
        CHECK.due("after another rule", x.run(one), -1);
        x.grow();
        x.clear();
        CHECK.due("after clear()", x.run(one), -1);
    }

    private static void noneForNoSuchPattern() {
        CHECK.sentence(13, "NONE when .. no such pattern");
        RuleTree x = new RuleTree();
        x.rule(x.any());
        x.grow();
        int value = x.record(0);
        CHECK.due("the last pattern", x.run(value), 0);
        int[] patterns = {value + 1, -1, -2, -3, Integer.MIN_VALUE, 16383, 16384, Integer.MAX_VALUE};
        for (int pattern : patterns) {
            CHECK.due("run(" + pattern + ")", x.run(pattern), -1);
        }
    }

    private static void noneForNoValue() {
        CHECK.sentence(13, "NONE when .. it is no value");
        RuleTree x = new RuleTree();
        x.family(1, 1);
        int any = x.any();
        int one = x.constant(0, 1);
        x.rule(any);
        x.grow();
        CHECK.due("ANY", x.run(any), -1);
        CHECK.due("built of ANY", x.run(x.built(0, 0, any)), -1);
        CHECK.due("a name of ANY", x.run(x.name(0, any)), -1);
        CHECK.due("a record of ANY", x.run(Make.pair(x, one, any)), -1);
        CHECK.due("a field without a pattern", x.run(Make.pair(x, one, -1)), -1);
        CHECK.due("a value", x.run(Make.pair(x, one, one)), 0);
        x.clear();
        x.rule(one);
        x.grow();
        CHECK.due("no value, NONE rather than STUCK", x.run(x.name(0, any)), -1);
    }

    private static void stuckAtAnotherSort() {
        CHECK.sentence(13, "STUCK when a part that is looked at is .. of another sort than the rules'");
        RuleTree x = new RuleTree();
        x.family(2, 0);
        x.family(2, 0);
        int[] values = {
            x.constant(0, 1), x.constant(1, 1), x.constant(2, 1), x.constant(3, 1), x.built(0, 1, -1),
            x.built(1, 1, -1), x.name(1, -1), x.record(0), Make.recordWith(x, 0)};
        // A record is not looked at, so the last two are values alone.
        for (int rule = 0; rule < 7; rule++) {
            x.clear();
            x.rule(values[rule]);
            x.grow();
            for (int value = 0; value < values.length; value++) {
                CHECK.due("rule of " + rule + ", run of " + value, x.run(values[value]), rule == value ? 0 : -3);
            }
        }
    }

    private static void stuckAtAnotherSortInside() {
        CHECK.sentence(13, "STUCK when a part that is looked at is .. of another sort than the rules' .. inside");
        RuleTree x = new RuleTree();
        x.family(2, 2);
        int one = x.constant(0, 1);
        int letter = x.constant(1, 1);
        x.rule(x.built(0, 1, one));
        x.rule(x.any());
        x.grow();
        CHECK.due("its own", x.run(x.built(0, 1, one)), 0);
        CHECK.due("another constant", x.run(x.built(0, 1, x.constant(0, 2))), 1);
        CHECK.due("another kind, though ANY takes all", x.run(x.built(0, 1, letter)), -3);
        CHECK.due("another tag", x.run(x.built(0, 0, -1)), 1);
    }

    private static void stuckWithoutTheRulesRecord() {
        CHECK.sentence(13, "STUCK when a part that is looked at is not there"
            + " (also when on the way to it the rules have a record, and the value none of as many fields)");
        RuleTree x = new RuleTree();
        int one = x.constant(0, 1);
        x.rule(Make.recordWith(x, one, -1));
        x.rule(x.any());
        x.grow();
        CHECK.due("(1, 1)", x.run(Make.recordWith(x, one, one)), 0);
        CHECK.due("(1, ())", x.run(Make.recordWith(x, one, x.record(0))), 0);
        CHECK.due("()", x.run(x.record(0)), -3);
        CHECK.due("(1), which has the part", x.run(Make.recordWith(x, one)), -3);
        CHECK.due("(1, 1, 1), which has the part", x.run(Make.recordWith(x, one, one, one)), -3);
        CHECK.due("1", x.run(one), -3);
        CHECK.due("a name of 1, which has a part at step 1", x.run(x.name(0, one)), -3);
        x.family(1, 1);
        CHECK.due("built of 1, which has a part at step 1", x.run(x.built(0, 0, one)), -3);
        CHECK.due("128 fields", x.run(Make.recordOf(x, 128, 128, one)), -3);
    }

    private static void stuckInRecordsOfRecords() {
        CHECK.sentence(13, "STUCK .. (also when on the way to it the rules have a record) .. in another");
        RuleTree x = new RuleTree();
        int one = x.constant(0, 1);
        int two = x.constant(0, 2);
        int single = Make.recordWith(x, one);
        x.rule(Make.pair(x, one, -1));
        x.rule(Make.pair(x, two, single));
        CHECK.due("grow()", x.grow(), 6);
        CHECK.due("(2, (1))", x.run(Make.pair(x, two, single)), 1);
        CHECK.due("(2, (2))", x.run(Make.pair(x, two, Make.recordWith(x, two))), -1);
        CHECK.due("(2, 1)", x.run(Make.pair(x, two, one)), -3);
        CHECK.due("(2, ())", x.run(Make.pair(x, two, x.record(0))), -3);
        CHECK.due("(2, (1, 1))", x.run(Make.pair(x, two, Make.pair(x, one, one))), -3);
        CHECK.due("(2, a name of 1)", x.run(Make.pair(x, two, x.name(0, one))), -3);
        CHECK.due("(2, ((1)))", x.run(Make.pair(x, two, Make.recordWith(x, single))), -3);
    }

    private static void stuckAtANameWithAnArgument() {
        CHECK.sentence(13, "STUCK when .. a name that a branch goes by, with an argument where the rules' has none");
        RuleTree x = new RuleTree();
        int one = x.constant(0, 1);
        int plain = x.name(0, -1);
        int far = x.name(Integer.MAX_VALUE, -1);
        x.rule(plain);
        x.rule(far);
        x.rule(x.any());
        x.grow();
        CHECK.due("name 0", x.run(plain), 0);
        CHECK.due("name 0 of 1", x.run(x.name(0, one)), -3);
        CHECK.due("name MAX", x.run(far), 1);
        CHECK.due("name MAX of 1", x.run(x.name(Integer.MAX_VALUE, one)), -3);
    }

    private static void stuckAtANameWithoutAnArgument() {
        CHECK.sentence(13, "STUCK when .. a name that a branch goes by .. or the other way round");
        RuleTree x = new RuleTree();
        int one = x.constant(0, 1);
        x.rule(x.name(4, x.any()));
        x.rule(x.name(6, one));
        x.grow();
        CHECK.due("name 4 of 1", x.run(x.name(4, one)), 0);
        CHECK.due("name 4", x.run(x.name(4, -1)), -3);
        CHECK.due("name 6 of 1", x.run(x.name(6, one)), 1);
        CHECK.due("name 6", x.run(x.name(6, -1)), -3);
    }

    private static void notStuckAtOtherNames() {
        CHECK.sentence(13, "a name that a branch goes by .. not one that goes by the last branch");
        RuleTree x = new RuleTree();
        int one = x.constant(0, 1);
        int two = x.constant(0, 2);
        x.rule(Make.pair(x, one, x.name(0, -1)));
        x.rule(Make.pair(x, -1, x.name(1, one)));
        x.grow();
        CHECK.due("(1, name 5)", x.run(Make.pair(x, one, x.name(5, -1))), -1);
        CHECK.due("(1, name 5 of 1)", x.run(Make.pair(x, one, x.name(5, one))), -1);
        CHECK.due("(1, name 0 of 1)", x.run(Make.pair(x, one, x.name(0, one))), -3);
        CHECK.due("(1, name 1)", x.run(Make.pair(x, one, x.name(1, -1))), -3);
        int odd = Make.pair(x, two, x.name(0, one));
        CHECK.due("(2, name 0 of 1), a rule's name that no branch goes by", x.run(odd), -1);
        CHECK.due("(2, name 1)", x.run(Make.pair(x, two, x.name(1, -1))), -3);
        CHECK.due("(2, name 1 of 1)", x.run(Make.pair(x, two, x.name(1, one))), 1);
    }

    private static void notStuckAtWhatIsNotLookedAt() {
        CHECK.sentence(13, "a part that is looked at .. and no other");
        RuleTree x = new RuleTree();
        int one = x.constant(0, 1);
        int two = x.constant(0, 2);
        int letter = x.constant(1, 1);
        x.rule(Make.pair(x, one, -1));
        x.rule(Make.pair(x, -1, letter));
        x.grow();
        CHECK.due("(1, 1), which does not fit", x.run(Make.pair(x, one, one)), 0);
        CHECK.due("(2, 1)", x.run(Make.pair(x, two, one)), -3);
        CHECK.due("(2, letter)", x.run(Make.pair(x, two, letter)), 1);
        x.clear();
        x.rule(x.record(2));
        x.grow();
        CHECK.due("a record is not looked at: a constant", x.run(one), 0);
        CHECK.due("a record is not looked at: ()", x.run(x.record(0)), 0);
    }

    private static void changesNothing() {
        CHECK.sentence(13, "The rule that the tree tells .. and nothing changes");
        Twins.unchanged(CHECK, Scenes.RICH, "run, a rule", x -> x.run(Scenes.ONE_NODE), 0);
        Twins.unchanged(CHECK, Scenes.RICH, "run, no rule", x -> x.run(Scenes.ONE_LEAF), -1);
        Twins.unchanged(CHECK, Scenes.RICH, "run, stuck", x -> x.run(Scenes.NAME), -3);
        Twins.unchanged(CHECK, Scenes.RICH, "run, no value", x -> x.run(Scenes.ONE_OPEN), -1);
        Twins.unchangedInAllScenes(CHECK, "run(-1)", x -> x.run(-1), -1);
        Twins.unchangedInAllScenes(CHECK, "run(MIN)", x -> x.run(Integer.MIN_VALUE), -1);
        Twins.unchangedInAllScenes(CHECK, "run(MAX)", x -> x.run(Integer.MAX_VALUE), -1);
        Twins.unchangedInAllScenes(CHECK, "run(the next)", x -> x.run(x.count(1)), -1);
        Twins.unchanged(CHECK, Scenes.UNGROWN, "run without a tree", x -> x.run(Scenes.ONE_NODE), -1);
    }
}
