/** Promise 14: looks. */
public final class Promise14LooksTest {
    private static final Check CHECK = new Check();

    private Promise14LooksTest() {
    }

    public static void main(String[] args) {
        howManyParts();
        noPartsAtAll();
        eachPartAtMostOnce();
        manyParts();
        noneWithoutATree();
        noneForNoSuchPattern();
        noneForNoValue();
        noneWhenStuck();
        changesNothing();
        CHECK.end();
    }

    private static void howManyParts() {
        CHECK.sentence(14, "How many parts the tree looks at for a value");
        RuleTree x = new RuleTree();
        int one = x.constant(0, 1);
        int two = x.constant(0, 2);
        x.rule(Make.pair(x, one, one));
        x.grow();
        CHECK.due("(1, 1)", x.looks(Make.pair(x, one, one)), 2);
        CHECK.due("(1, 2), no rule", x.looks(Make.pair(x, one, two)), 2);
        CHECK.due("(2, 1), no rule", x.looks(Make.pair(x, two, one)), 1);
        CHECK.due("(2, 2), no rule", x.looks(Make.pair(x, two, two)), 1);
    }

    private static void noPartsAtAll() {
        CHECK.sentence(14, "How many parts .. none");
        RuleTree x = new RuleTree();
        int value = x.record(0);
        x.grow();
        CHECK.due("of no rules", x.looks(value), 0);
        x.rule(x.any());
        x.rule(value);
        x.grow();
        CHECK.due("of ANY", x.looks(value), 0);
    }

    /** All rules ask for the same parts, and are asked one after another. */
    private static void eachPartAtMostOnce() {
        CHECK.sentence(14, "looks at each part of a value at most once");
        RuleTree x = new RuleTree();
        int[] numbers = {x.constant(0, 1), x.constant(0, 2), x.constant(0, 3)};
        x.rule(Make.recordWith(x, numbers[0], numbers[0], numbers[0]));
        x.rule(Make.recordWith(x, numbers[0], numbers[1], -1));
        x.rule(Make.recordWith(x, numbers[0], -1, numbers[1]));
        x.rule(Make.recordWith(x, numbers[1], numbers[1], numbers[1]));
        x.rule(Make.recordWith(x, -1, -1, numbers[2]));
        x.grow();
        int[][] rules = {{0, 2, 4}, {1, 1, 1}, {-1, 2, 4}, {-1, -1, 4}, {-1, 3, 4}, {-1, -1, 4}, {-1, -1, 4}};
        int[] looks = {3, 2, 3, 3, 3, 3, 2};
        for (int row = 0; row < 7; row++) {
            for (int last = 0; last < 3; last++) {
                int value = Make.recordWith(x, numbers[row / 3], numbers[row % 3], numbers[last]);
                CHECK.due("run of row " + row + ", " + last, x.run(value), rules[row][last]);
                CHECK.due("looks of row " + row + ", " + last, x.looks(value), looks[row]);
            }
        }
        CHECK.due("depth()", x.depth(), 3);
    }

    private static void manyParts() {
        CHECK.sentence(14, "How many parts .. more than two thousand");
        RuleTree x = new RuleTree();
        int value = Make.leaves(x, 2047, x.constant(0, 1));
        x.rule(value);
        x.grow();
        CHECK.due("looks", x.looks(value), 2047);
    }

    private static void noneWithoutATree() {
        CHECK.sentence(14, "NONE when there is no tree");
        RuleTree x = new RuleTree();
        int one = x.constant(0, 1);
        CHECK.due("of a new object", x.looks(one), -1);
        x.rule(one);
        CHECK.due("before grow()", x.looks(one), -1);
        x.grow();
        CHECK.due("after grow()", x.looks(one), 1);
        x.rule(one);
        CHECK.due("after another rule", x.looks(one), -1);
        x.grow();
        x.clear();
        CHECK.due("after clear()", x.looks(one), -1);
    }

    private static void noneForNoSuchPattern() {
        CHECK.sentence(14, "NONE when there is .. no such pattern");
        RuleTree x = new RuleTree();
        x.rule(x.any());
        x.grow();
        int value = x.record(0);
        CHECK.due("the last pattern", x.looks(value), 0);
        int[] patterns = {value + 1, -1, -2, -3, Integer.MIN_VALUE, 16383, 16384, Integer.MAX_VALUE};
        for (int pattern : patterns) {
            CHECK.due("looks(" + pattern + ")", x.looks(pattern), -1);
        }
    }

    private static void noneForNoValue() {
        CHECK.sentence(14, "NONE when .. it is no value");
        RuleTree x = new RuleTree();
        int any = x.any();
        int one = x.constant(0, 1);
        x.rule(any);
        x.grow();
        CHECK.due("ANY", x.looks(any), -1);
        CHECK.due("a field without a pattern", x.looks(Make.pair(x, one, -1)), -1);
        CHECK.due("a name of ANY", x.looks(x.name(0, any)), -1);
        CHECK.due("a value", x.looks(Make.pair(x, one, one)), 0);
    }

    private static void noneWhenStuck() {
        CHECK.sentence(14, "NONE when .. run() is STUCK");
        RuleTree x = new RuleTree();
        int one = x.constant(0, 1);
        int letter = x.constant(1, 1);
        x.rule(Make.pair(x, one, one));
        x.grow();
        CHECK.due("at the first part", x.looks(Make.pair(x, letter, one)), -1);
        CHECK.due("at the last part", x.looks(Make.pair(x, one, letter)), -1);
        CHECK.due("without the record", x.looks(one), -1);
        x.clear();
        x.rule(x.name(0, -1));
        x.grow();
        CHECK.due("a name with an argument", x.looks(x.name(0, one)), -1);
    }

    private static void changesNothing() {
        CHECK.sentence(14, "How many parts the tree looks at .. and nothing changes");
        Twins.unchanged(CHECK, Scenes.RICH, "looks, a rule", x -> x.looks(Scenes.ONE_NODE), 3);
        Twins.unchanged(CHECK, Scenes.RICH, "looks, no rule", x -> x.looks(Scenes.ONE_LEAF), 2);
        Twins.unchanged(CHECK, Scenes.RICH, "looks, stuck", x -> x.looks(Scenes.NAME), -1);
        Twins.unchangedInAllScenes(CHECK, "looks(-1)", x -> x.looks(-1), -1);
        Twins.unchangedInAllScenes(CHECK, "looks(MIN)", x -> x.looks(Integer.MIN_VALUE), -1);
        Twins.unchangedInAllScenes(CHECK, "looks(MAX)", x -> x.looks(Integer.MAX_VALUE), -1);
        Twins.unchangedInAllScenes(CHECK, "looks(the next)", x -> x.looks(x.count(1)), -1);
        Twins.unchanged(CHECK, Scenes.UNGROWN, "looks without a tree", x -> x.looks(Scenes.ONE_NODE), -1);
    }
}
