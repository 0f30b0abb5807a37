/** The document's section "Terms": the tree, its nodes and its branches. */
public final class TermsTreeTest {
    private static final Check CHECK = new Check();

    private TermsTreeTest() {
    }

    public static void main(String[] args) {
        possibleAsLongAsNotContradicted();
        whatIsAskedFor();
        theFirstRulesFirstPart();
        theNextRulesFirstPart();
        allPossibleRulesAreAsked();
        whenThereIsNoneThatRuleIsTheOne();
        whenNoRuleIsPossible();
        aPartIsANodeOnEachWay();
        belowOtherTagsOtherParts();
        branchesOfPossibleRulesAlone();
        branchesOnceForEqualRules();
        constantsInRisingOrder();
        bytesInRisingOrder();
        tagsInRisingOrder();
        namesInRisingOrder();
        othersOfAFamily();
        othersOfKindTwo();
        othersOfAllElse();
        deepPatterns();
        wideTrees();
        CHECK.end();
    }

    private static void possibleAsLongAsNotContradicted() {
        CHECK.term("A rule is POSSIBLE as long as what was looked at does not contradict it");
        RuleTree x = new RuleTree();
        int one = x.constant(0, 1);
        int two = x.constant(0, 2);
        x.rule(Make.pair(x, one, one));
        x.rule(Make.pair(x, -1, two));
        x.rule(Make.pair(x, one, -1));
        CHECK.due("grow()", x.grow(), 8);
        CHECK.due("ends(0)", x.ends(0), 1);
        CHECK.due("ends(1), possible on both ways", x.ends(1), 2);
        CHECK.due("ends(2), possible on one way", x.ends(2), 1);
        CHECK.due("ends(-1)", x.ends(-1), 1);
        CHECK.due("(2, 1)", x.run(Make.pair(x, two, one)), -1);
        CHECK.due("(2, 2)", x.run(Make.pair(x, two, two)), 1);
    }

    private static void whatIsAskedFor() {
        CHECK.term("parts that it ASKS for (constants, constructors, names)");
        RuleTree x = new RuleTree();
        x.family(1, 1);
        int any = x.any();
        looksOf(x, "ANY", any, 0);
        looksOf(x, "a record", x.record(0), 0);
        looksOf(x, "a record of records of ANY", Make.pair(x, Make.recordWith(x, any), x.record(5)), 0);
        looksOf(x, "a constant", x.constant(0, 0), 1);
        looksOf(x, "a constructor", x.built(0, 0, any), 1);
        looksOf(x, "a name", x.name(0, -1), 1);
        looksOf(x, "a name of ANY", x.name(0, any), 1);
        looksOf(x, "a constant in records", Make.recordWith(x, Make.recordWith(x, x.constant(0, 0))), 1);
        looksOf(x, "all at once", x.built(0, 0, Make.pair(x, x.name(0, any), x.constant(0, 0))), 3);
    }

    private static void looksOf(RuleTree x, String what, int pattern, int due) {
        x.clear();
        x.rule(pattern);
        x.grow();
        CHECK.due("depth() of " + what, x.depth(), due);
    }

    /** Not the first part that any rule asks for, but the first one of the first rule. */
    private static void theFirstRulesFirstPart() {
        CHECK.term("As long as the first possible rule has parts that it ASKS for and that were not looked at,"
            + " the first of these is LOOKED AT");
        RuleTree x = new RuleTree();
        int one = x.constant(0, 1);
        int two = x.constant(0, 2);
        x.rule(Make.recordWith(x, -1, -1, one));
        x.rule(Make.recordWith(x, one, one, one));
        x.rule(Make.recordWith(x, one, -1, -1));
        CHECK.due("grow()", x.grow(), 5);
        CHECK.due("(2, 2, 1), just field 2", x.looks(Make.recordWith(x, two, two, one)), 1);
        CHECK.due("(1, 1, 2), field 2 and field 0", x.looks(Make.recordWith(x, one, one, two)), 2);
        CHECK.due("(1, 1, 2)", x.run(Make.recordWith(x, one, one, two)), 2);
        CHECK.due("(2, 1, 2)", x.run(Make.recordWith(x, two, one, two)), -1);
        CHECK.due("ends(1)", x.ends(1), 0);
    }

    private static void theNextRulesFirstPart() {
        CHECK.term("the first possible rule .. when those before it are contradicted");
        RuleTree x = new RuleTree();
        int one = x.constant(0, 1);
        int two = x.constant(0, 2);
        x.rule(Make.recordWith(x, one, -1, one));
        x.rule(Make.recordWith(x, -1, one, -1));
        x.grow();
        CHECK.due("(1, 2, 2): fields 0, 2, then 1", x.looks(Make.recordWith(x, one, two, two)), 3);
        CHECK.due("(1, 2, 1): fields 0, 2", x.looks(Make.recordWith(x, one, two, one)), 2);
        CHECK.due("(2, 2, 1): fields 0, 1", x.looks(Make.recordWith(x, two, two, one)), 2);
        CHECK.due("(1, 1, 2)", x.run(Make.recordWith(x, one, one, two)), 1);
    }

    private static void allPossibleRulesAreAsked() {
        CHECK.term("what the value has there, of which all possible rules are asked");
        RuleTree x = new RuleTree();
        x.rule(x.constant(0, 3));
        x.rule(x.any());
        x.rule(x.constant(0, 5));
        CHECK.due("grow() has a branch for the last rule too", x.grow(), 4);
        CHECK.due("ends(1)", x.ends(1), 2);
        CHECK.due("ends(2)", x.ends(2), 0);
    }

    private static void whenThereIsNoneThatRuleIsTheOne() {
        CHECK.term("When there is none, that rule is the one");
        RuleTree x = new RuleTree();
        int one = x.constant(0, 1);
        x.rule(x.any());
        x.rule(one);
        CHECK.due("grow()", x.grow(), 1);
        CHECK.due("ends(0)", x.ends(0), 1);
        CHECK.due("ends(1)", x.ends(1), 0);
        CHECK.due("run", x.run(one), 0);
        x.clear();
        x.rule(one);
        x.rule(x.any());
        CHECK.due("grow(), the other way round", x.grow(), 3);
        CHECK.due("run", x.run(one), 0);
        CHECK.due("run", x.run(x.constant(0, 2)), 1);
    }

    private static void whenNoRuleIsPossible() {
        CHECK.term("when no rule is possible, there is none");
        RuleTree x = new RuleTree();
        int one = x.constant(0, 1);
        int two = x.constant(0, 2);
        x.rule(Make.recordWith(x, one, one, one));
        x.grow();
        CHECK.due("(2, 1, 1): looks at no more", x.looks(Make.recordWith(x, two, one, one)), 1);
        CHECK.due("(2, 1, 1)", x.run(Make.recordWith(x, two, one, one)), -1);
        CHECK.due("ends(-1)", x.ends(-1), 3);
    }

    private static void aPartIsANodeOnEachWay() {
        CHECK.term("A NODE of the tree is a part that is looked at, where some of the parts before"
            + " turned out so or so, or an end");
        RuleTree x = new RuleTree();
        int one = x.constant(0, 1);
        int two = x.constant(0, 2);
        x.rule(Make.pair(x, one, one));
        x.rule(Make.pair(x, two, one));
        x.rule(Make.pair(x, -1, one));
        CHECK.due("grow(): field 0, three times field 1, six ends", x.grow(), 10);
        CHECK.due("ends(0)", x.ends(0), 1);
        CHECK.due("ends(1)", x.ends(1), 1);
        CHECK.due("ends(2)", x.ends(2), 1);
        CHECK.due("ends(-1)", x.ends(-1), 3);
        CHECK.due("depth()", x.depth(), 2);
    }

    /** At one path, below different constructors, the rules have different sorts. */
    private static void belowOtherTagsOtherParts() {
        CHECK.term("where some of the parts before turned out so or so .. and what is below is of another sort");
        RuleTree x = new RuleTree();
        x.family(2, 3);
        int one = x.constant(0, 1);
        int letter = x.constant(1, 1);
        x.rule(x.built(0, 0, one));
        x.rule(x.built(0, 1, letter));
        CHECK.due("grow()", x.grow(), 7);
        CHECK.due("tag 0 of 1", x.run(x.built(0, 0, one)), 0);
        CHECK.due("tag 1 of a letter", x.run(x.built(0, 1, letter)), 1);
        CHECK.due("tag 0 of a letter", x.run(x.built(0, 0, letter)), -3);
        CHECK.due("tag 1 of 1", x.run(x.built(0, 1, one)), -3);
    }

    private static void branchesOfPossibleRulesAlone() {
        CHECK.term("a BRANCH goes for each constant, tag or name that some rule that is possible there has"
            + " at that part");
        RuleTree x = new RuleTree();
        int one = x.constant(0, 1);
        int two = x.constant(0, 2);
        int five = x.constant(0, 5);
        int six = x.constant(0, 6);
        x.rule(Make.pair(x, one, five));
        x.rule(Make.pair(x, two, six));
        CHECK.due("grow()", x.grow(), 8);
        x.rule(Make.pair(x, -1, six));
        CHECK.due("grow(), a rule that is possible on all ways", x.grow(), 11);
    }

    private static void branchesOnceForEqualRules() {
        CHECK.term("a BRANCH goes for each constant, tag or name .. once, however many rules have it");
        RuleTree x = new RuleTree();
        x.family(2, 2);
        int[] patterns = {x.constant(0, 1), x.constant(2, 1), x.built(0, 1, x.any()), x.name(1, -1)};
        for (int pattern : patterns) {
            x.clear();
            x.rule(pattern);
            x.rule(pattern);
            x.rule(pattern);
            CHECK.due("grow() of three rules of " + pattern, x.grow(), 3);
        }
    }

    /** The rules come in falling order; the first end without a rule is below the first branch. */
    private static int firstBranch(RuleTree x, int[] patterns) {
        int nine = x.constant(0, 9);
        x.clear();
        for (int pattern : patterns) {
            x.rule(Make.pair(x, pattern, nine));
        }
        x.grow();
        return x.missing(1, 1);
    }

    private static void constantsInRisingOrder() {
        CHECK.term("in rising order .. of constants");
        RuleTree x = new RuleTree();
        int most = x.constant(3, Integer.MAX_VALUE);
        int one = x.constant(3, 1);
        int nought = x.constant(3, 0);
        int less = x.constant(3, -1);
        int least = x.constant(3, Integer.MIN_VALUE);
        CHECK.due("of MAX", firstBranch(x, new int[] {most}), Integer.MAX_VALUE);
        CHECK.due("of MAX, 1", firstBranch(x, new int[] {most, one}), 1);
        CHECK.due("of 1, MAX, 0", firstBranch(x, new int[] {one, most, nought}), 0);
        CHECK.due("of MAX, 1, 0, -1", firstBranch(x, new int[] {most, one, nought, less}), -1);
        int[] all = {most, least, one, nought, less};
        CHECK.due("of MAX, MIN, 1, 0, -1", firstBranch(x, all), Integer.MIN_VALUE);
        CHECK.due("of MIN, MAX", firstBranch(x, new int[] {least, most}), Integer.MIN_VALUE);
    }

    private static void bytesInRisingOrder() {
        CHECK.term("in rising order .. of constants of kind 2");
        RuleTree x = new RuleTree();
        int[] patterns = {x.constant(2, 255), x.constant(2, 128), x.constant(2, 127), x.constant(2, 1)};
        CHECK.due("of 255, 128, 127, 1", firstBranch(x, patterns), 1);
        CHECK.due("of 255, 128", firstBranch(x, new int[] {patterns[0], patterns[1]}), 128);
    }

    private static void tagsInRisingOrder() {
        CHECK.term("in rising order .. of tags");
        RuleTree x = new RuleTree();
        x.family(64, 0);
        int[] patterns = {x.built(0, 63, -1), x.built(0, 33, -1), x.built(0, 31, -1), x.built(0, 1, -1)};
        CHECK.due("of 63, 33, 31, 1", firstBranch(x, patterns), 1);
        CHECK.due("of 63, 33", firstBranch(x, new int[] {patterns[0], patterns[1]}), 33);
    }

    private static void namesInRisingOrder() {
        CHECK.term("in rising order .. of names");
        RuleTree x = new RuleTree();
        int[] patterns = {x.name(Integer.MAX_VALUE, -1), x.name(256, -1), x.name(255, -1), x.name(2, -1)};
        CHECK.due("of MAX, 256, 255, 2", firstBranch(x, patterns), 2);
        CHECK.due("of MAX, 256", firstBranch(x, new int[] {patterns[0], patterns[1]}), 256);
    }

    private static void othersOfAFamily() {
        CHECK.term("one more, the last, for all others, if there are others: for a family tags that are left");
        int[] sizes = {1, 2, 3, 32, 63, 64};
        for (int n : sizes) {
            RuleTree x = new RuleTree();
            x.family(n, 0);
            for (int tag = n - 1; tag > 0; tag--) {
                x.rule(x.built(0, tag, -1));
            }
            if (n > 1) {
                CHECK.due("of " + n + ", grow() of all but one", x.grow(), n + 1);
                CHECK.due("of " + n + ", ends(-1)", x.ends(-1), 1);
            }
            int last = x.built(0, 0, -1);
            x.rule(last);
            CHECK.due("of " + n + ", grow() of all", x.grow(), n + 1);
            CHECK.due("of " + n + ", ends(-1)", x.ends(-1), 0);
            CHECK.due("of " + n + ", run of the last", x.run(last), n - 1);
        }
    }

    /** All 256 numbers need more calls than an object has: LongRunsTest has them. */
    private static void othersOfKindTwo() {
        CHECK.term("one more, the last .. if there are others: for constants of kind 2 numbers that are left");
        RuleTree x = new RuleTree();
        for (int number = 0; number < 255; number++) {
            x.rule(x.constant(2, number));
        }
        CHECK.due("grow() of 255 numbers", x.grow(), 257);
        CHECK.due("the last is left", x.missing(0, 1), 255);
        RuleTree y = new RuleTree();
        y.rule(y.constant(2, 0));
        CHECK.due("grow() of one number", y.grow(), 3);
        CHECK.due("ends(-1)", y.ends(-1), 1);
    }

    private static void othersOfAllElse() {
        CHECK.term("one more, the last .. for other constants and names always");
        RuleTree x = new RuleTree();
        int[] kinds = {0, 1, 3};
        for (int kind : kinds) {
            x.clear();
            x.rule(x.constant(kind, Integer.MIN_VALUE));
            x.rule(x.constant(kind, Integer.MAX_VALUE));
            CHECK.due("grow() of kind " + kind, x.grow(), 4);
            CHECK.due("ends(-1)", x.ends(-1), 1);
        }
        x.clear();
        x.rule(x.name(0, -1));
        x.rule(x.name(Integer.MAX_VALUE, -1));
        CHECK.due("grow() of names", x.grow(), 4);
        CHECK.due("ends(-1)", x.ends(-1), 1);
    }

    private static void deepPatterns() {
        CHECK.term("THE TREE .. of a pattern that is hundreds of levels deep");
        RuleTree x = new RuleTree();
        int pattern = x.constant(1, 9);
        for (int i = 0; i < 490; i++) {
            pattern = x.name(i, pattern);
        }
        CHECK.due("rule", x.rule(pattern), 0);
        CHECK.due("grow()", x.grow(), 2 * 491 + 1);
        CHECK.due("depth()", x.depth(), 491);
        CHECK.due("run", x.run(pattern), 0);
        CHECK.due("looks", x.looks(pattern), 491);
        CHECK.due("first", x.first(pattern), 0);
        CHECK.due("fits", x.fits(pattern), true);
        CHECK.due("run of its inside", x.run(pattern - 1), -1);
        CHECK.due("looks of its inside", x.looks(pattern - 1), 1);
        CHECK.due("run of the innermost", x.run(0), -3);
        CHECK.due("missing, eight steps deep", x.missing(0x0101010101010101L, 1), 481);
    }

    private static void wideTrees() {
        CHECK.term("THE TREE .. of a pattern with the same small one in many places");
        RuleTree x = new RuleTree();
        int pattern = Make.leaves(x, 1024, x.constant(3, 4));
        CHECK.due("rule", x.rule(pattern), 0);
        CHECK.due("grow()", x.grow(), 2 * 1024 + 1);
        CHECK.due("run", x.run(pattern), 0);
        CHECK.due("looks", x.looks(pattern), 1024);
        CHECK.due("ends(-1)", x.ends(-1), 1024);
    }
}
