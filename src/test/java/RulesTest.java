/** Promises 9 to 11, 15 and 16: rules, what goes together, and what matches, without a tree. */
public final class RulesTest {
    private static final Check CHECK = new Check();

    private RulesTest() {
    }

    public static void main(String[] args) {
        rules();
        sortsOfRules();
        namesOfRules();
        recordsOfRules();
        cleared();
        forgotten();
        firsts();
        firstsOfRecords();
        fitting();
        CHECK.end();
    }

    private static void rules() {
        CHECK.about("promise 9");
        RuleTree x = new RuleTree();
        CHECK.due("rule(0)", x.rule(0), -1);
        int any = x.any();
        CHECK.due("rule(-1)", x.rule(-1), -1);
        CHECK.due("rule(1)", x.rule(1), -1);
        CHECK.due("rule(any)", x.rule(any), 0);
        CHECK.due("rule(any)", x.rule(any), 1);
        CHECK.due("grow()", x.grow(), 1);
        CHECK.due("rule(7), refused", x.rule(7), -1);
        CHECK.due("the tree stays: count(4)", x.count(4), 1);
        CHECK.due("rule(any)", x.rule(any), 2);
        CHECK.due("the tree goes: count(4)", x.count(4), 0);
        CHECK.due("the tree goes: depth()", x.depth(), -1);
        CHECK.due("count(3)", x.count(3), 3);
    }

    private static void sortsOfRules() {
        CHECK.about("promise 9, sorts");
        RuleTree x = new RuleTree();
        x.family(2, 2);
        x.family(2, 2);
        int any = x.any();
        int[] sorts = {
            x.constant(0, 1), x.constant(1, 1), x.constant(2, 1), x.constant(3, 1),
            x.built(0, 0, -1), x.built(1, 0, -1), x.name(0, -1), x.record(0), x.record(1), x.record(2)};
        for (int one : sorts) {
            for (int other : sorts) {
                x.clear();
                x.rule(any);
                x.rule(one);
                CHECK.due("rule(" + other + ") after " + one, x.rule(other), one == other ? 2 : -1);
            }
        }
        x.clear();
        x.rule(x.built(0, 1, sorts[0]));
        CHECK.due("another argument, the same constructor", x.rule(x.built(0, 1, sorts[1])), -1);
        CHECK.due("another constructor", x.rule(sorts[4]), 1);
        CHECK.due("another constant in it", x.rule(x.built(0, 1, x.constant(0, 2))), 2);
    }

    private static void namesOfRules() {
        CHECK.about("promise 9, names");
        RuleTree x = new RuleTree();
        int number = x.constant(0, 1);
        int letter = x.constant(1, 1);
        CHECK.due("a name with an argument", x.rule(x.name(1, number)), 0);
        CHECK.due("the same without", x.rule(x.name(1, -1)), -1);
        CHECK.due("the same with another", x.rule(x.name(1, letter)), -1);
        CHECK.due("another without", x.rule(x.name(2, -1)), 1);
        CHECK.due("another with another", x.rule(x.name(3, letter)), 2);
        CHECK.due("the other with one", x.rule(x.name(2, number)), -1);
        CHECK.due("the same with ANY", x.rule(x.name(1, x.any())), 3);
    }

    private static void recordsOfRules() {
        CHECK.about("promise 9, records");
        RuleTree x = new RuleTree();
        int number = x.constant(0, 1);
        int letter = x.constant(1, 1);
        CHECK.due("(number, _)", x.rule(Make.pair(x, number, -1)), 0);
        CHECK.due("(_, letter)", x.rule(Make.pair(x, -1, letter)), 1);
        CHECK.due("(_, _)", x.rule(Make.pair(x, -1, -1)), 2);
        CHECK.due("(letter, _)", x.rule(Make.pair(x, letter, -1)), -1);
        CHECK.due("(number, number)", x.rule(Make.pair(x, number, number)), -1);
        CHECK.due("(_, number)", x.rule(Make.pair(x, -1, number)), -1);
        CHECK.due("(number, letter)", x.rule(Make.pair(x, number, letter)), 3);
    }

    private static void cleared() {
        CHECK.about("promise 10");
        RuleTree x = new RuleTree();
        x.family(1, 0);
        int any = x.any();
        int number = x.constant(0, 0);
        CHECK.due("clear() without rules", x.clear(), 0);
        x.rule(number);
        x.rule(any);
        x.push(3, any);
        x.grow();
        CHECK.due("clear()", x.clear(), 2);
        CHECK.due("families stay", x.count(0), 1);
        CHECK.due("patterns stay", x.count(1), 2);
        CHECK.due("what is pushed stays", x.count(2), 1);
        CHECK.due("rules go", x.count(3), 0);
        CHECK.due("the tree goes", x.count(4), 0);
        CHECK.due("the tree goes: missing(0, 0)", x.missing(0, 0), -1);
        CHECK.due("any sort again", x.rule(x.name(0, -1)), 0);
        CHECK.due("grow()", x.grow(), 3);
    }

    private static void forgotten() {
        CHECK.about("promise 11");
        RuleTree x = new RuleTree();
        x.family(2, 0);
        x.any();
        x.constant(0, 0);
        x.push(1, 0);
        x.rule(1);
        x.grow();
        CHECK.due("forget()", x.forget(), 2);
        for (int what = 0; what <= 4; what++) {
            CHECK.due("count(" + what + ")", x.count(what), 0);
        }
        CHECK.due("push(0, 0)", x.push(0, 0), -1);
        CHECK.due("built(0, 0, -1)", x.built(0, 0, -1), -1);
        CHECK.due("rule(0)", x.rule(0), -1);
        CHECK.due("first(1)", x.first(1), -1);
        CHECK.due("family(2, 2)", x.family(2, 2), 0);
        CHECK.due("record(0)", x.record(0), 0);
        CHECK.due("built(0, 1, 0)", x.built(0, 1, 0), 1);
        CHECK.due("rule(1)", x.rule(1), 0);
        CHECK.due("grow()", x.grow(), 3);
        CHECK.due("run(1)", x.run(1), 0);
        CHECK.due("forget()", x.forget(), 2);
        CHECK.due("forget()", x.forget(), 0);
    }

    private static void firsts() {
        CHECK.about("promise 15");
        RuleTree x = new RuleTree();
        x.family(3, 6);
        int any = x.any();
        int one = x.constant(0, 1);
        int two = x.constant(0, 2);
        int leaf = x.built(0, 0, -1);
        int oneOne = x.built(0, 1, one);
        int oneTwo = x.built(0, 1, two);
        int twoTwo = x.built(0, 2, two);
        CHECK.due("first without rules", x.first(leaf), -1);
        x.rule(oneOne);
        x.rule(x.built(0, 1, any));
        x.rule(oneOne);
        x.rule(leaf);
        CHECK.due("first(1 of 1)", x.first(oneOne), 0);
        CHECK.due("first(1 of 2)", x.first(oneTwo), 1);
        CHECK.due("first(0)", x.first(leaf), 3);
        CHECK.due("first(2 of 2)", x.first(twoTwo), -1);
        CHECK.due("another sort", x.first(one), -1);
        CHECK.due("no value", x.first(any), -1);
        CHECK.due("no pattern", x.first(99), -1);
        CHECK.due("no pattern", x.first(-1), -1);
        x.rule(any);
        CHECK.due("first(2 of 2)", x.first(twoTwo), 4);
        CHECK.due("another sort", x.first(one), 4);
        CHECK.due("no value", x.first(any), -1);
        x.clear();
        x.rule(x.name(1, -1));
        x.rule(x.name(2, any));
        CHECK.due("name 1", x.first(x.name(1, -1)), 0);
        CHECK.due("name 1 with an argument", x.first(x.name(1, one)), -1);
        CHECK.due("name 2 with an argument", x.first(x.name(2, one)), 1);
        CHECK.due("name 2 without", x.first(x.name(2, -1)), -1);
    }

    private static void firstsOfRecords() {
        CHECK.about("promise 15, records");
        RuleTree x = new RuleTree();
        int one = x.constant(0, 1);
        int two = x.constant(0, 2);
        x.rule(Make.pair(x, one, -1));
        x.rule(Make.pair(x, -1, one));
        x.rule(Make.pair(x, -1, -1));
        CHECK.due("(1, 2)", x.first(Make.pair(x, one, two)), 0);
        CHECK.due("(2, 1)", x.first(Make.pair(x, two, one)), 1);
        CHECK.due("(2, 2)", x.first(Make.pair(x, two, two)), 2);
        CHECK.due("(1, _)", x.first(Make.pair(x, one, -1)), -1);
        x.push(0, one);
        x.push(1, one);
        x.push(2, one);
        CHECK.due("(1, 1, 1)", x.first(x.record(3)), -1);
    }

    private static void fitting() {
        CHECK.about("promise 16");
        RuleTree x = new RuleTree();
        int any = x.any();
        int one = x.constant(0, 1);
        int two = x.constant(0, 2);
        int letter = x.constant(1, 1);
        CHECK.due("without rules", x.fits(one), true);
        CHECK.due("no value", x.fits(any), false);
        CHECK.due("no pattern", x.fits(99), false);
        CHECK.due("no pattern", x.fits(-1), false);
        x.rule(any);
        x.rule(Make.pair(x, one, -1));
        x.rule(Make.pair(x, -1, letter));
        CHECK.due("(2, letter), without a tree", x.fits(Make.pair(x, two, letter)), true);
        CHECK.due("(2, 2)", x.fits(Make.pair(x, two, two)), false);
        CHECK.due("(letter, letter)", x.fits(Make.pair(x, letter, letter)), false);
        CHECK.due("2", x.fits(two), false);
        CHECK.due("(2, _), no value", x.fits(Make.pair(x, two, -1)), false);
        x.clear();
        x.rule(x.name(0, -1));
        x.rule(x.name(1, one));
        CHECK.due("name 0", x.fits(x.name(0, -1)), true);
        CHECK.due("name 0 with an argument", x.fits(x.name(0, one)), false);
        CHECK.due("name 1", x.fits(x.name(1, -1)), false);
        CHECK.due("name 1 with 2", x.fits(x.name(1, two)), true);
        CHECK.due("name 1 with a letter", x.fits(x.name(1, letter)), false);
        CHECK.due("name 2 with a letter", x.fits(x.name(2, letter)), true);
    }
}
