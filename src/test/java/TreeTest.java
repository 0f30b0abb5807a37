/** Promises 12 to 14 and 17 to 20: the tree, what it tells of values, and the missing value. */
public final class TreeTest {
    private static final Check CHECK = new Check();

    private TreeTest() {
    }

    public static void main(String[] args) {
        noRules();
        grown();
        laterRulesBranchToo();
        orderOfParts();
        stuck();
        stuckNames();
        stuckRecords();
        looking();
        ends();
        depths();
        missingConstants();
        missingNames();
        missingInside();
        missingNameOfAnotherRule();
        counts();
        CHECK.end();
    }

    private static void noRules() {
        CHECK.about("promise 12, no rules");
        RuleTree x = new RuleTree();
        CHECK.due("grow()", x.grow(), 1);
        CHECK.due("depth()", x.depth(), 0);
        CHECK.due("ends(-1)", x.ends(-1), 1);
        CHECK.due("ends(0)", x.ends(0), -1);
        int leaf = x.record(0);
        CHECK.due("run", x.run(leaf), -1);
        CHECK.due("looks", x.looks(leaf), 0);
        CHECK.due("missing(0, 0)", x.missing(0, 0), 0);
        CHECK.due("missing(0, 1)", x.missing(0, 1), -1);
        CHECK.due("missing(1, 0)", x.missing(1, 0), -1);
    }

    private static void grown() {
        CHECK.about("promise 12");
        RuleTree x = new RuleTree();
        x.family(3, 2);
        int leaf = x.built(0, 0, -1);
        int inner = x.built(0, 1, leaf);
        x.rule(inner);
        CHECK.due("grow()", x.grow(), 5);
        CHECK.due("grow() again", x.grow(), 5);
        x.rule(x.any());
        CHECK.due("grow() with ANY", x.grow(), 5);
        CHECK.due("ends(0)", x.ends(0), 1);
        CHECK.due("ends(1)", x.ends(1), 2);
        CHECK.due("ends(-1)", x.ends(-1), 0);
        x.rule(x.built(0, 2, -1));
        CHECK.due("grow() with a rule that no value has", x.grow(), 6);
        CHECK.due("ends(2)", x.ends(2), 0);
        CHECK.due("run", x.run(inner), 0);
        CHECK.due("run", x.run(leaf), 1);
        CHECK.due("looks", x.looks(inner), 2);
    }

    private static void laterRulesBranchToo() {
        CHECK.about("promise 12, rules behind one that takes all");
        RuleTree x = new RuleTree();
        x.rule(x.constant(0, 3));
        x.rule(x.any());
        x.rule(x.constant(0, 5));
        CHECK.due("grow()", x.grow(), 4);
        CHECK.due("ends(1)", x.ends(1), 2);
        CHECK.due("ends(2)", x.ends(2), 0);
    }

    private static void orderOfParts() {
        CHECK.about("promise 12, the order of parts");
        RuleTree x = new RuleTree();
        x.family(1, 1);
        int one = x.constant(0, 1);
        int two = x.constant(0, 2);
        int letter = x.constant(1, 7);
        int inLeft = x.built(0, 0, one);
        x.rule(Make.pair(x, inLeft, letter));
        x.rule(Make.pair(x, -1, letter));
        CHECK.due("grow()", x.grow(), 8);
        int value = Make.pair(x, x.built(0, 0, two), letter);
        CHECK.due("run", x.run(value), 1);
        CHECK.due("looks at the left, what is in it, the right", x.looks(value), 3);
        CHECK.due("the first missing", x.missing(0x0101, 1), 1);
        CHECK.due("the first missing", x.missing(0x02, 1), 0);
    }

    private static void stuck() {
        CHECK.about("promise 13");
        RuleTree x = new RuleTree();
        x.family(2, 2);
        x.family(2, 2);
        int any = x.any();
        int one = x.constant(0, 1);
        int two = x.constant(0, 2);
        int letter = x.constant(1, 1);
        int pattern = x.built(0, 1, one);
        x.rule(pattern);
        CHECK.due("no tree", x.run(pattern), -1);
        x.grow();
        CHECK.due("its value", x.run(pattern), 0);
        CHECK.due("another constant", x.run(x.built(0, 1, two)), -1);
        CHECK.due("another tag", x.run(x.built(0, 0, -1)), -1);
        CHECK.due("another kind inside", x.run(x.built(0, 1, letter)), -3);
        CHECK.due("another family", x.run(x.built(1, 0, -1)), -3);
        CHECK.due("a constant", x.run(one), -3);
        CHECK.due("a name", x.run(x.name(1, one)), -3);
        CHECK.due("a record", x.run(x.record(0)), -3);
        CHECK.due("no value", x.run(x.built(0, 1, any)), -1);
        CHECK.due("no value", x.run(any), -1);
        CHECK.due("no pattern", x.run(-1), -1);
        CHECK.due("no pattern", x.run(x.count(1)), -1);
        CHECK.due("no pattern", x.run(Integer.MAX_VALUE), -1);
        CHECK.due("no pattern", x.run(Integer.MIN_VALUE), -1);
    }

    private static void stuckNames() {
        CHECK.about("promise 13, names");
        RuleTree x = new RuleTree();
        int one = x.constant(0, 1);
        x.rule(x.name(4, x.any()));
        x.rule(x.name(6, -1));
        x.grow();
        CHECK.due("name 4 of 1", x.run(x.name(4, one)), 0);
        CHECK.due("name 4", x.run(x.name(4, -1)), -3);
        CHECK.due("name 6", x.run(x.name(6, -1)), 1);
        CHECK.due("name 6 of 1", x.run(x.name(6, one)), -3);
        CHECK.due("name 5", x.run(x.name(5, -1)), -1);
        CHECK.due("name 5 of 1", x.run(x.name(5, one)), -1);
        x.clear();
        int plain = x.name(0, -1);
        int other = x.name(1, -1);
        x.rule(Make.pair(x, one, plain));
        x.rule(Make.pair(x, -1, other));
        x.grow();
        int odd = x.name(0, one);
        CHECK.due("(1, name 0 of 1)", x.run(Make.pair(x, one, odd)), -3);
        CHECK.due("(2, name 0 of 1), no branch goes by it", x.run(Make.pair(x, x.constant(0, 2), odd)), -1);
    }

    private static void stuckRecords() {
        CHECK.about("promise 13, records");
        RuleTree x = new RuleTree();
        int one = x.constant(0, 1);
        int two = x.constant(0, 2);
        x.push(0, one);
        int single = x.record(1);
        int both = Make.pair(x, one, single);
        x.rule(Make.pair(x, one, -1));
        x.rule(Make.pair(x, two, single));
        CHECK.due("grow()", x.grow(), 6);
        CHECK.due("(1, (1))", x.run(both), 0);
        CHECK.due("(1, 1), not looked at", x.run(Make.pair(x, one, one)), 0);
        CHECK.due("(2, (1))", x.run(Make.pair(x, two, single)), 1);
        CHECK.due("(2, 1)", x.run(Make.pair(x, two, one)), -3);
        CHECK.due("(2, ())", x.run(Make.pair(x, two, x.record(0))), -3);
        CHECK.due("(2, (1, (1)))", x.run(Make.pair(x, two, both)), -3);
        CHECK.due("(2, name of 1), which has a step 1 too", x.run(Make.pair(x, two, x.name(0, one))), -3);
        CHECK.due("(1)", x.run(single), -3);
        CHECK.due("(3, 1)", x.run(Make.pair(x, x.constant(0, 3), one)), -1);
        x.push(0, one);
        x.push(1, one);
        x.push(2, one);
        CHECK.due("(1, 1, 1)", x.run(x.record(3)), -3);
    }

    private static void looking() {
        CHECK.about("promise 14");
        RuleTree x = new RuleTree();
        int any = x.any();
        int one = x.constant(0, 1);
        int two = x.constant(0, 2);
        x.rule(Make.pair(x, one, one));
        int ones = Make.pair(x, one, one);
        CHECK.due("no tree", x.looks(ones), -1);
        x.grow();
        CHECK.due("(1, 1)", x.looks(ones), 2);
        CHECK.due("(1, 2), no rule", x.looks(Make.pair(x, one, two)), 2);
        CHECK.due("(2, 1), no rule", x.looks(Make.pair(x, two, one)), 1);
        CHECK.due("stuck at once", x.looks(one), -1);
        CHECK.due("stuck later", x.looks(Make.pair(x, one, x.name(0, -1))), -1);
        CHECK.due("no value", x.looks(any), -1);
        CHECK.due("no pattern", x.looks(-1), -1);
        CHECK.due("no pattern", x.looks(x.count(1)), -1);
        x.clear();
        x.rule(any);
        x.grow();
        CHECK.due("none", x.looks(ones), 0);
    }

    private static void ends() {
        CHECK.about("promise 17");
        RuleTree x = new RuleTree();
        int one = x.constant(0, 1);
        x.rule(Make.pair(x, one, one));
        x.rule(Make.pair(x, -1, one));
        CHECK.due("no tree", x.ends(0), -1);
        CHECK.due("no tree", x.ends(-1), -1);
        x.grow();
        CHECK.due("ends(0)", x.ends(0), 1);
        CHECK.due("ends(1)", x.ends(1), 1);
        CHECK.due("ends(-1)", x.ends(-1), 2);
        CHECK.due("ends(2)", x.ends(2), -1);
        CHECK.due("ends(-2)", x.ends(-2), -1);
        CHECK.due("ends(MIN)", x.ends(Integer.MIN_VALUE), -1);
        CHECK.due("ends(MAX)", x.ends(Integer.MAX_VALUE), -1);
    }

    private static void depths() {
        CHECK.about("promise 18");
        RuleTree x = new RuleTree();
        int one = x.constant(0, 1);
        int two = x.constant(0, 2);
        CHECK.due("no tree", x.depth(), -1);
        x.rule(x.any());
        x.grow();
        CHECK.due("nothing is looked at", x.depth(), 0);
        x.clear();
        x.rule(Make.pair(x, one, -1));
        x.rule(Make.pair(x, two, one));
        x.grow();
        CHECK.due("two parts on the longest way", x.depth(), 2);
        x.rule(Make.pair(x, one, two));
        CHECK.due("no tree", x.depth(), -1);
    }

    private static void missingConstants() {
        CHECK.about("promise 19, constants");
        RuleTree x = new RuleTree();
        CHECK.due("no tree", x.missing(0, 0), -1);
        x.rule(x.constant(3, 0));
        x.rule(x.constant(3, -1));
        x.rule(x.constant(3, 1));
        x.rule(x.constant(3, 3));
        x.grow();
        CHECK.due("missing(0, 0)", x.missing(0, 0), 1);
        CHECK.due("missing(0, 1)", x.missing(0, 1), 2);
        CHECK.due("missing(0, 2)", x.missing(0, 2), -1);
        CHECK.due("missing(0, -1)", x.missing(0, -1), -1);
        CHECK.due("missing(1, 0)", x.missing(1, 0), -1);
        CHECK.due("steps behind a 0 do not count", x.missing(0x0100, 1), 2);
        x.rule(x.any());
        x.grow();
        CHECK.due("nothing is missing", x.missing(0, 0), -1);
    }

    private static void missingNames() {
        CHECK.about("promise 19, names");
        RuleTree x = new RuleTree();
        int one = x.constant(0, 1);
        x.rule(x.name(0, one));
        x.grow();
        CHECK.due("a name", x.missing(0, 0), 3);
        CHECK.due("name 0", x.missing(0, 1), 0);
        CHECK.due("its argument", x.missing(1, 0), 1);
        CHECK.due("its argument's number", x.missing(1, 1), 0);
        CHECK.due("no second step", x.missing(2, 0), -1);
        x.rule(x.name(0, x.any()));
        x.grow();
        CHECK.due("name 1", x.missing(0, 1), 1);
        CHECK.due("without an argument", x.missing(1, 0), -1);
    }

    private static void missingInside() {
        CHECK.about("promise 19, inside");
        RuleTree x = new RuleTree();
        x.family(2, 3);
        int one = x.constant(2, 0);
        x.push(1, one);
        int inner = x.record(3);
        x.push(1, x.built(0, 1, inner));
        int outer = x.record(2);
        x.rule(outer);
        x.grow();
        CHECK.due("the whole", x.missing(0, 0), 4);
        CHECK.due("the whole, what", x.missing(0, 1), -1);
        CHECK.due("field 0", x.missing(1, 0), 0);
        CHECK.due("field 0, what", x.missing(1, 1), -1);
        CHECK.due("field 1", x.missing(2, 0), 2);
        CHECK.due("field 1's tag", x.missing(2, 1), 1);
        CHECK.due("field 2", x.missing(3, 0), -1);
        CHECK.due("field 254", x.missing(255, 0), -1);
        CHECK.due("its argument", x.missing(0x0102, 0), 4);
        CHECK.due("its second argument", x.missing(0x0202, 0), -1);
        CHECK.due("its field 1", x.missing(0x020102, 0), 1);
        CHECK.due("its field 1, what", x.missing(0x020102, 1), 1);
        CHECK.due("its field 2, which no rule has", x.missing(0x030102, 0), 0);
        CHECK.due("below ANY", x.missing(0x01030102, 0), -1);
        CHECK.due("its field 3", x.missing(0x040102, 0), -1);
        x.push(1, x.built(0, 1, x.any()));
        x.rule(x.record(2));
        x.grow();
        CHECK.due("field 1's tag", x.missing(2, 1), 0);
        CHECK.due("its argument, which no rule has", x.missing(0x0102, 0), 0);
        CHECK.due("below it", x.missing(0x010102, 0), -1);
    }

    /** The name that is told stands in a rule that is not possible there, but goes together with all. */
    private static void missingNameOfAnotherRule() {
        CHECK.about("promise 19, a name of another rule");
        RuleTree x = new RuleTree();
        int one = x.constant(0, 1);
        int two = x.constant(0, 2);
        x.rule(Make.pair(x, one, x.name(0, x.any())));
        x.rule(Make.pair(x, one, -1));
        x.rule(Make.pair(x, two, x.name(5, -1)));
        x.grow();
        CHECK.due("field 0", x.missing(1, 1), 2);
        CHECK.due("field 1", x.missing(2, 0), 3);
        CHECK.due("field 1's name", x.missing(2, 1), 0);
        CHECK.due("its argument", x.missing(0x0102, 0), 0);
    }

    private static void counts() {
        CHECK.about("promise 20");
        RuleTree x = new RuleTree();
        x.family(1, 0);
        x.family(2, 0);
        x.any();
        x.built(0, 0, -1);
        x.built(1, 1, -1);
        x.push(0, 0);
        x.push(9, 0);
        x.push(3, 0);
        x.push(4, 0);
        x.rule(0);
        x.rule(2);
        x.rule(2);
        x.rule(2);
        x.rule(2);
        CHECK.due("count(0)", x.count(0), 2);
        CHECK.due("count(1)", x.count(1), 3);
        CHECK.due("count(2)", x.count(2), 4);
        CHECK.due("count(3)", x.count(3), 5);
        CHECK.due("count(4)", x.count(4), 0);
        x.grow();
        CHECK.due("count(4)", x.count(4), 1);
        CHECK.due("count(5)", x.count(5), -1);
        CHECK.due("count(-1)", x.count(-1), -1);
        CHECK.due("count(MAX)", x.count(Integer.MAX_VALUE), -1);
    }
}
