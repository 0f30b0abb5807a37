/** Promise 12: grow. */
public final class Promise12GrowTest {
    private static final Check CHECK = new Check();

    private Promise12GrowTest() {
    }

    public static void main(String[] args) {
        ofNoRules();
        ofOneRule();
        howManyNodes();
        onceMore();
        afterOtherRules();
        changesNothingElse();
        lastNumberThatIsTaken();
        fullBeyondIt();
        fullFarBeyondIt();
        noTreeWhenFull();
        notFullAfterFull();
        CHECK.end();
    }

    private static void ofNoRules() {
        CHECK.sentence(12, "The tree of the rules is made .. of no rules");
        RuleTree x = new RuleTree();
        CHECK.due("grow()", x.grow(), 1);
        CHECK.due("count(4)", x.count(4), 1);
        CHECK.due("depth()", x.depth(), 0);
        CHECK.due("ends(-1)", x.ends(-1), 1);
        int value = x.record(0);
        CHECK.due("run", x.run(value), -1);
        CHECK.due("looks", x.looks(value), 0);
    }

    private static void ofOneRule() {
        CHECK.sentence(12, "how many nodes it has .. of one rule");
        RuleTree x = new RuleTree();
        x.family(1, 0);
        x.family(2, 0);
        grown(x, "ANY", x.any(), 1);
        grown(x, "a record of no fields", x.record(0), 1);
        grown(x, "a record without patterns", x.record(128), 1);
        grown(x, "a constant", x.constant(0, 0), 3);
        grown(x, "a constant of kind 2", x.constant(2, 0), 3);
        grown(x, "the only constructor", x.built(0, 0, -1), 2);
        grown(x, "one of two constructors", x.built(1, 0, -1), 3);
        grown(x, "a name", x.name(0, -1), 3);
        grown(x, "a name of a name", x.name(0, x.name(0, -1)), 5);
        grown(x, "a record of two names", Make.pair(x, x.name(0, -1), x.name(0, -1)), 5);
    }

    private static void grown(RuleTree x, String what, int pattern, int nodes) {
        x.clear();
        x.rule(pattern);
        CHECK.due("grow() of " + what, x.grow(), nodes);
        CHECK.due("count(4)", x.count(4), nodes);
    }

    private static void howManyNodes() {
        CHECK.sentence(12, "how many nodes it has");
        RuleTree x = new RuleTree();
        x.family(3, 2);
        int leaf = x.built(0, 0, -1);
        int inner = x.built(0, 1, leaf);
        x.rule(inner);
        CHECK.due("grow()", x.grow(), 5);
        x.rule(x.any());
        CHECK.due("grow() with ANY", x.grow(), 5);
        CHECK.due("ends(0)", x.ends(0), 1);
        CHECK.due("ends(1)", x.ends(1), 2);
        CHECK.due("ends(-1)", x.ends(-1), 0);
        x.rule(x.built(0, 2, -1));
        CHECK.due("grow() with a rule that no value has", x.grow(), 6);
        CHECK.due("ends(2)", x.ends(2), 0);
    }

    private static void onceMore() {
        CHECK.sentence(12, "The tree of the rules is made .. once more");
        Twins.unchanged(CHECK, Scenes.RICH, "grow()", x -> x.grow(), 8);
        RuleTree x = new RuleTree();
        x.rule(x.constant(0, 1));
        CHECK.due("grow()", x.grow(), 3);
        CHECK.due("grow()", x.grow(), 3);
        CHECK.due("count(4)", x.count(4), 3);
    }

    private static void afterOtherRules() {
        CHECK.sentence(12, "The tree of the rules is made .. of those that there are now");
        RuleTree x = new RuleTree();
        int one = x.constant(0, 1);
        int two = x.constant(0, 2);
        x.rule(one);
        CHECK.due("grow()", x.grow(), 3);
        CHECK.due("run(two)", x.run(two), -1);
        x.rule(two);
        CHECK.due("run(two) without a tree", x.run(two), -1);
        CHECK.due("grow()", x.grow(), 4);
        CHECK.due("run(two)", x.run(two), 1);
        x.clear();
        x.rule(two);
        CHECK.due("grow()", x.grow(), 3);
        CHECK.due("run(two)", x.run(two), 0);
        CHECK.due("run(one)", x.run(one), -1);
    }

    private static void changesNothingElse() {
        CHECK.sentence(12, "The tree of the rules is made .. and no more");
        RuleTree x = new RuleTree();
        Scenes.UNGROWN.accept(x);
        CHECK.due("grow(), the third rule being behind the second", x.grow(), 8);
        CHECK.due("count(0)", x.count(0), 2);
        CHECK.due("count(1)", x.count(1), Scenes.RICH_PATTERNS);
        CHECK.due("count(2)", x.count(2), 2);
        CHECK.due("count(3)", x.count(3), 3);
        CHECK.due("push(0, 0), which is pushed already", x.push(0, 0), -1);
    }

    /** A root without others, then 2,047 parts with an end each for all others, and the rule's end. */
    private static RuleTree with4096Nodes() {
        RuleTree x = new RuleTree();
        x.family(1, 1);
        x.rule(x.built(0, 0, Make.leaves(x, 2047, x.constant(0, 1))));
        return x;
    }

    private static void lastNumberThatIsTaken() {
        CHECK.sentence(12, "FULL .. not at 4,096");
        RuleTree x = with4096Nodes();
        int value = x.count(1) - 1;
        CHECK.due("grow()", x.grow(), 4096);
        CHECK.due("count(4)", x.count(4), 4096);
        CHECK.due("depth()", x.depth(), 2048);
        CHECK.due("ends(0)", x.ends(0), 1);
        CHECK.due("ends(-1)", x.ends(-1), 2047);
        CHECK.due("run", x.run(value), 0);
        CHECK.due("looks", x.looks(value), 2048);
        CHECK.due("missing(0, 0)", x.missing(0, 0), 2);
        CHECK.due("grow() once more", x.grow(), 4096);
    }

    private static void fullBeyondIt() {
        CHECK.sentence(12, "FULL .. when it would have more than 4,096");
        RuleTree x = new RuleTree();
        x.rule(Make.leaves(x, 2048, x.constant(0, 1)));
        CHECK.due("grow() of 4,097 nodes", x.grow(), -2);
        CHECK.due("count(4)", x.count(4), 0);
        x.clear();
        x.family(1, 1);
        x.rule(x.built(0, 0, x.built(0, 0, Make.leaves(x, 2047, 0))));
        CHECK.due("grow() of 4,097 nodes, the last an end", x.grow(), -2);
        x.clear();
        x.rule(Make.leaves(x, 2047, 0));
        CHECK.due("grow() of 4,095 nodes", x.grow(), 4095);
    }

    /** Each rule asks for two fields of its own and thereby doubles the tree. */
    private static void fullFarBeyondIt() {
        CHECK.sentence(12, "FULL .. when it would have more than 4,096 .. by far");
        RuleTree x = new RuleTree();
        int one = x.constant(0, 1);
        for (int rule = 0; rule < 64; rule++) {
            x.push(2 * rule, one);
            x.push(2 * rule + 1, one);
            x.rule(x.record(128));
            int due = rule < 10 ? 4 * (1 << rule + 1) - 3 : -2;
            CHECK.due("grow() of " + (rule + 1) + " rules", x.grow(), due);
        }
        CHECK.due("count(3)", x.count(3), 64);
    }

    private static void noTreeWhenFull() {
        CHECK.sentence(12, "FULL, and there is no tree");
        RuleTree x = new RuleTree();
        Scenes.OVERGROWN.accept(x);
        int value = x.count(1) - 1;
        CHECK.due("count(4)", x.count(4), 0);
        CHECK.due("depth()", x.depth(), -1);
        CHECK.due("ends(0)", x.ends(0), -1);
        CHECK.due("ends(-1)", x.ends(-1), -1);
        CHECK.due("run", x.run(value), -1);
        CHECK.due("looks", x.looks(value), -1);
        CHECK.due("missing(0, 0)", x.missing(0, 0), -1);
        CHECK.due("rules stay: first", x.first(value), 0);
        CHECK.due("rules stay: fits", x.fits(value), true);
        CHECK.due("rules stay: count(3)", x.count(3), 1);
        Twins.unchanged(CHECK, Scenes.OVERGROWN, "grow() once more", y -> y.grow(), -2);
    }

    private static void notFullAfterFull() {
        CHECK.sentence(12, "FULL .. and other rules have a tree again");
        RuleTree x = new RuleTree();
        Scenes.OVERGROWN.accept(x);
        CHECK.due("a rule more", x.rule(x.any()), 1);
        CHECK.due("grow()", x.grow(), -2);
        x.clear();
        CHECK.due("grow() of no rules", x.grow(), 1);
        x.rule(0);
        CHECK.due("grow() of a constant", x.grow(), 3);
        CHECK.due("run", x.run(0), 0);
        CHECK.due("missing(0, 1)", x.missing(0, 1), 0);
    }
}
