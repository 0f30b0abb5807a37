import java.util.function.Consumer;

/** Promise 9: rule. */
public final class Promise09RuleTest {
    private static final Check CHECK = new Check();

    private Promise09RuleTest() {
    }

    public static void main(String[] args) {
        numbers();
        noTreeThen();
        noSuchPattern();
        notTogetherWithARuleBefore();
        notTogetherWithOneOfMany();
        rulesThatAreGoneDoNotCount();
        asManyAsCallsCanMake();
        lastSizeThatIsTaken();
        sizesAsOftenAsTheyAre();
        fullBeyondThem();
        refusedRatherThanFull();
        CHECK.end();
    }

    private static void numbers() {
        CHECK.sentence(9, "A rule more: its number");
        RuleTree x = new RuleTree();
        int any = x.any();
        int one = x.constant(0, 1);
        CHECK.due("rule(any)", x.rule(any), 0);
        CHECK.due("rule(any) once more", x.rule(any), 1);
        CHECK.due("rule(one)", x.rule(one), 2);
        CHECK.due("count(3)", x.count(3), 3);
        CHECK.due("first", x.first(one), 0);
    }

    private static void noTreeThen() {
        CHECK.sentence(9, "there is no tree then");
        RuleTree x = new RuleTree();
        Scenes.RICH.accept(x);
        CHECK.due("a tree", x.count(4) > 0, true);
        CHECK.due("rule", x.rule(Scenes.TWO_NODE), 2);
        CHECK.due("count(4)", x.count(4), 0);
        CHECK.due("depth()", x.depth(), -1);
        CHECK.due("ends(0)", x.ends(0), -1);
        CHECK.due("ends(-1)", x.ends(-1), -1);
        CHECK.due("missing(0, 0)", x.missing(0, 0), -1);
        CHECK.due("run", x.run(Scenes.ONE_NODE), -1);
        CHECK.due("looks", x.looks(Scenes.ONE_NODE), -1);
        CHECK.due("what is pushed stays", x.count(2), 2);
        RuleTree y = new RuleTree();
        y.grow();
        y.rule(y.any());
        CHECK.due("no tree after the first rule", y.count(4), 0);
    }

    private static void noSuchPattern() {
        CHECK.sentence(9, "NONE, refused, when there is no such pattern");
        int[] patterns = {-1, -2, -3, Integer.MIN_VALUE, 16384, 16385, Integer.MAX_VALUE};
        for (int pattern : patterns) {
            refused(Scenes.NEW, pattern);
            refused(Scenes.RICH, pattern);
            refused(Scenes.UNGROWN, pattern);
            refused(Scenes.HEAVY, pattern);
            refused(Scenes.OVERGROWN, pattern);
        }
        Twins.unchangedInAllScenes(CHECK, "rule(the next)", x -> x.rule(x.count(1)), -1);
        RuleTree x = new RuleTree();
        x.any();
        x.any();
        CHECK.due("the last pattern", x.rule(1), 0);
        CHECK.due("the first pattern", x.rule(0), 1);
    }

    private static void notTogetherWithARuleBefore() {
        CHECK.sentence(9, "NONE, refused, when .. it does not go together with a rule before");
        int[] patterns = {
            Scenes.ONE, Scenes.TWO, Scenes.BYTE, Scenes.LEAF, Scenes.NODE, Scenes.NAME, Scenes.NAMED,
            Scenes.EMPTY_RECORD};
        for (int pattern : patterns) {
            refused(Scenes.RICH, pattern);
            refused(Scenes.UNGROWN, pattern);
        }
        RuleTree x = new RuleTree();
        Scenes.RULELESS.accept(x);
        for (int pattern = 0; pattern < Scenes.RICH_PATTERNS; pattern++) {
            x.clear();
            CHECK.due("without a rule before, rule(" + pattern + ")", x.rule(pattern), 0);
            CHECK.due("with itself, rule(" + pattern + ")", x.rule(pattern), 1);
            CHECK.due("with ANY", x.rule(Scenes.ANY), 2);
        }
    }

    /** Just the first, the second or the last of three rules forbids it. */
    private static void notTogetherWithOneOfMany() {
        CHECK.sentence(9, "NONE, refused, when .. it does not go together with a rule before .. any of them");
        RuleTree x = new RuleTree();
        int one = x.constant(0, 1);
        int letter = x.constant(1, 1);
        x.rule(Make.recordWith(x, one, -1, -1));
        x.rule(Make.recordWith(x, -1, one, -1));
        x.rule(Make.recordWith(x, -1, -1, one));
        CHECK.due("not with the first", x.rule(Make.recordWith(x, letter, one, one)), -1);
        CHECK.due("not with the second", x.rule(Make.recordWith(x, one, letter, one)), -1);
        CHECK.due("not with the last", x.rule(Make.recordWith(x, one, one, letter)), -1);
        CHECK.due("count(3)", x.count(3), 3);
        CHECK.due("with none of them", x.rule(Make.recordWith(x, letter, letter, letter)), -1);
        CHECK.due("with all", x.rule(Make.recordWith(x, one, one, one)), 3);
        CHECK.due("not with the last, in all fields", x.rule(Make.recordWith(x, letter, letter, letter)), -1);
        CHECK.due("with all", x.rule(Make.recordWith(x, one, one, one)), 4);
    }

    private static void rulesThatAreGoneDoNotCount() {
        CHECK.sentence(9, "a rule before .. not one that is gone, or was refused");
        RuleTree x = new RuleTree();
        int one = x.constant(0, 1);
        int letter = x.constant(1, 1);
        x.rule(one);
        CHECK.due("rule(letter)", x.rule(letter), -1);
        CHECK.due("rule(one)", x.rule(one), 1);
        x.clear();
        CHECK.due("rule(letter)", x.rule(letter), 0);
        CHECK.due("rule(one)", x.rule(one), -1);
    }

    private static void asManyAsCallsCanMake() {
        CHECK.sentence(9, "FULL .. not before 1,024 rules");
        RuleTree x = new RuleTree();
        int any = x.any();
        for (int number = 0; number < 508; number++) {
            CHECK.due("rule(any)", x.rule(any), number);
        }
        CHECK.due("count(3)", x.count(3), 508);
        CHECK.due("grow()", x.grow(), 1);
        CHECK.due("ends(507)", x.ends(507), 0);
    }

    private static void lastSizeThatIsTaken() {
        CHECK.sentence(9, "FULL .. not at sizes of 16,384 together");
        RuleTree x = new RuleTree();
        int any = x.any();
        int size10000 = Make.pair(x, Make.ofSize(x, 9999, any), -1);
        int size6385 = Make.pair(x, -1, Make.ofSize(x, 6384, any));
        int size6384 = Make.pair(x, -1, Make.ofSize(x, 6383, any));
        CHECK.due("rule of 10,000", x.rule(size10000), 0);
        CHECK.due("rule of 6,385", x.rule(size6385), -2);
        CHECK.due("rule of 10,000", x.rule(size10000), -2);
        CHECK.due("rule of 6,384", x.rule(size6384), 1);
        CHECK.due("rule of 1", x.rule(any), -2);
        CHECK.due("count(3)", x.count(3), 2);
        x.clear();
        CHECK.due("rule of 1, after clear()", x.rule(any), 0);
        CHECK.due("rule of 10,000", x.rule(size10000), 1);
        CHECK.due("rule of 6,384", x.rule(size6384), -2);
    }

    private static void sizesAsOftenAsTheyAre() {
        CHECK.sentence(9, "FULL .. of one pattern in many rules");
        RuleTree x = new RuleTree();
        int any = x.any();
        int size4096 = Make.ofSize(x, 4096, any);
        for (int rule = 0; rule < 4; rule++) {
            CHECK.due("rule of 4,096", x.rule(size4096), rule);
        }
        CHECK.due("rule of 4,096, the fifth", x.rule(size4096), -2);
        CHECK.due("rule of 1", x.rule(any), -2);
        x.clear();
        int size5461 = Make.ofSize(x, 5461, any);
        x.rule(size5461);
        x.rule(size5461);
        CHECK.due("rule of 5,461, the third", x.rule(size5461), 2);
        CHECK.due("rule of 1, to 16,384", x.rule(any), 3);
        CHECK.due("rule of 1, to 16,385", x.rule(any), -2);
    }

    private static void fullBeyondThem() {
        CHECK.sentence(9, "FULL .. and the tree stays");
        Twins.unchanged(CHECK, Scenes.HEAVY, "rule(ANY)", x -> x.rule(0), -2);
        Twins.unchanged(CHECK, Scenes.HEAVY, "rule of 10,000", x -> x.rule(Scenes.heaviest(x)), -2);
        RuleTree x = new RuleTree();
        Scenes.HEAVY.accept(x);
        int nodes = x.count(4);
        CHECK.due("grow()", nodes, 3);
        x.rule(0);
        CHECK.due("count(4)", x.count(4), 3);
        CHECK.due("depth()", x.depth(), 1);
        CHECK.due("ends(0)", x.ends(0), 1);
        CHECK.due("ends(1)", x.ends(1), 1);
    }

    private static void refusedRatherThanFull() {
        CHECK.sentence(9, "NONE, refused .. also when it would be FULL");
        Twins.unchanged(CHECK, Scenes.HEAVY, "rule of a constant", x -> x.rule(1), -1);
    }

    private static void refused(Consumer<RuleTree> scene, int pattern) {
        Twins.unchanged(CHECK, scene, "rule(" + pattern + ")", x -> x.rule(pattern), -1);
    }
}
