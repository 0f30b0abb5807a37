/** The document's section "Terms": sorts, what matches and what goes together, and the rules. */
public final class TermsMatchTest {
    private static final Check CHECK = new Check();

    private TermsMatchTest() {
    }

    public static void main(String[] args) {
        sorts();
        anyMatches();
        theSameConstantMatches();
        theSameConstructorMatches();
        theSameNameMatches();
        aRecordMatches();
        anyGoesTogether();
        otherMarksGoTogether();
        sameConstructorsGoTogether();
        sameNamesGoTogether();
        fieldsGoTogether();
        anyTwoRulesGoTogether();
        sizesOfRulesTogether();
        CHECK.end();
    }

    private static void matches(RuleTree x, String what, int pattern, int value, boolean due) {
        x.clear();
        x.rule(pattern);
        CHECK.due(what, x.first(value), due ? 0 : -1);
    }

    /** Asked both ways round, and by rule() as well as by fits(), if they are values. */
    private static void together(RuleTree x, String what, int one, int other, boolean due) {
        x.clear();
        x.rule(one);
        CHECK.due(what, x.rule(other), due ? 1 : -1);
        x.clear();
        x.rule(other);
        CHECK.due(what + ", the other way round", x.rule(one), due ? 1 : -1);
        x.clear();
        if (x.fits(one)) {
            x.rule(other);
            CHECK.due(what + ", fits()", x.fits(one), due);
        }
    }

    private static void sorts() {
        CHECK.term("The SORT of a constant is its kind, of what is built its family, of a name that it is one,"
            + " of a record how many fields it has");
        RuleTree x = new RuleTree();
        x.family(2, 0);
        x.family(2, 0);
        int[] ones = {
            x.constant(0, 1), x.constant(1, 1), x.constant(2, 1), x.constant(3, 1), x.built(0, 1, -1),
            x.built(1, 1, -1), x.name(1, -1), x.record(0), x.record(1), x.record(2), x.record(127), x.record(128)};
        for (int i = 0; i < ones.length; i++) {
            for (int j = 0; j < ones.length; j++) {
                x.clear();
                x.rule(ones[i]);
                CHECK.due("sort " + i + " beside sort " + j, x.rule(ones[j]), i == j ? 1 : -1);
            }
        }
    }

    private static void anyMatches() {
        CHECK.term("A pattern MATCHES a value if it is ANY");
        RuleTree x = new RuleTree();
        x.family(1, 1);
        int any = x.any();
        int one = x.constant(0, 1);
        matches(x, "a constant", any, one, true);
        matches(x, "built", any, x.built(0, 0, one), true);
        matches(x, "a name", any, x.name(0, one), true);
        matches(x, "a record", any, Make.pair(x, one, one), true);
    }

    private static void theSameConstantMatches() {
        CHECK.term("A pattern MATCHES a value if .. of the same sort, and the same constant");
        RuleTree x = new RuleTree();
        int[] numbers = {Integer.MIN_VALUE, -1, 0, 1, Integer.MAX_VALUE};
        for (int number : numbers) {
            int pattern = x.constant(1, number);
            for (int other : numbers) {
                matches(x, number + " and " + other, pattern, x.constant(1, other), number == other);
            }
            matches(x, "another kind", pattern, x.constant(0, number), false);
        }
        matches(x, "a name of the same number", x.constant(1, 0), x.name(0, -1), false);
    }

    private static void theSameConstructorMatches() {
        CHECK.term("A pattern MATCHES a value if .. the same constructor, and its argument's pattern,"
            + " if there is one, matches the argument");
        RuleTree x = new RuleTree();
        x.family(4, 6);
        x.family(4, 6);
        int one = x.constant(0, 1);
        int two = x.constant(0, 2);
        int leaf = x.built(0, 0, -1);
        int node = x.built(0, 1, one);
        matches(x, "without an argument", leaf, x.built(0, 0, -1), true);
        matches(x, "another without an argument", leaf, x.built(0, 3, -1), false);
        matches(x, "another family", leaf, x.built(1, 0, -1), false);
        matches(x, "with the same argument", node, x.built(0, 1, one), true);
        matches(x, "with another argument", node, x.built(0, 1, two), false);
        matches(x, "another with the same argument", node, x.built(0, 2, one), false);
        matches(x, "with ANY", x.built(0, 1, x.any()), x.built(0, 1, two), true);
        matches(x, "another with ANY", x.built(0, 1, x.any()), x.built(0, 2, two), false);
    }

    private static void theSameNameMatches() {
        CHECK.term("A pattern MATCHES a value if .. the same name, both without an argument, or likewise");
        RuleTree x = new RuleTree();
        int one = x.constant(0, 1);
        int two = x.constant(0, 2);
        matches(x, "both without", x.name(3, -1), x.name(3, -1), true);
        matches(x, "another without", x.name(3, -1), x.name(4, -1), false);
        matches(x, "the value with one", x.name(3, -1), x.name(3, one), false);
        matches(x, "the pattern with one", x.name(3, one), x.name(3, -1), false);
        matches(x, "the pattern with ANY", x.name(3, x.any()), x.name(3, -1), false);
        matches(x, "the same with the same", x.name(3, one), x.name(3, one), true);
        matches(x, "the same with another", x.name(3, one), x.name(3, two), false);
        matches(x, "another with the same", x.name(3, one), x.name(2, one), false);
        matches(x, "the same with ANY", x.name(3, x.any()), x.name(3, two), true);
    }

    private static void aRecordMatches() {
        CHECK.term("A pattern MATCHES a value if .. a record all of whose patterns match the fields");
        RuleTree x = new RuleTree();
        int one = x.constant(0, 1);
        int two = x.constant(0, 2);
        int oneTwo = Make.pair(x, one, two);
        matches(x, "without patterns", x.record(2), oneTwo, true);
        matches(x, "all of them", Make.pair(x, one, two), oneTwo, true);
        matches(x, "the first alone", Make.pair(x, one, -1), oneTwo, true);
        matches(x, "the last alone", Make.pair(x, -1, two), oneTwo, true);
        matches(x, "not the first", Make.pair(x, two, two), oneTwo, false);
        matches(x, "not the last", Make.pair(x, one, one), oneTwo, false);
        matches(x, "with ANY", Make.pair(x, x.any(), two), oneTwo, true);
        matches(x, "another number of fields", Make.recordWith(x, one, two, -1), oneTwo, false);
        matches(x, "no fields", x.record(0), x.record(0), true);
        matches(x, "128 fields, not the last", Make.recordAt(x, 128, 127, two), Make.recordOf(x, 128, 128, one), false);
    }

    private static void anyGoesTogether() {
        CHECK.term("Two patterns GO TOGETHER if one of them is ANY");
        RuleTree x = new RuleTree();
        x.family(1, 1);
        int any = x.any();
        together(x, "with itself", any, any, true);
        together(x, "with a constant", any, x.constant(0, 1), true);
        together(x, "with what is built", any, x.built(0, 0, any), true);
        together(x, "with a name", any, x.name(0, -1), true);
        together(x, "with a record", any, x.record(128), true);
    }

    private static void otherMarksGoTogether() {
        CHECK.term("Two patterns GO TOGETHER if .. they are of the same sort");
        RuleTree x = new RuleTree();
        x.family(3, 6);
        int one = x.constant(0, 1);
        int letter = x.constant(1, 1);
        together(x, "constants of one kind", one, x.constant(0, Integer.MIN_VALUE), true);
        together(x, "constants of two kinds", one, letter, false);
        together(x, "a constant and a name", one, x.name(1, -1), false);
        together(x, "constructors, one with an argument", x.built(0, 0, -1), x.built(0, 1, one), true);
        together(x, "constructors with arguments of two sorts", x.built(0, 1, one), x.built(0, 2, letter), true);
        together(x, "names, one with an argument", x.name(0, -1), x.name(1, one), true);
        together(x, "names with arguments of two sorts", x.name(0, letter), x.name(1, one), true);
        together(x, "records of no fields", x.record(0), x.record(0), true);
        together(x, "records of 127 and 128 fields", x.record(127), x.record(128), false);
    }

    private static void sameConstructorsGoTogether() {
        CHECK.term("Two patterns GO TOGETHER if .. of the same constructor .. both have an argument"
            + " (and these go together) or both have none");
        RuleTree x = new RuleTree();
        x.family(2, 2);
        int one = x.constant(0, 1);
        int two = x.constant(0, 2);
        int letter = x.constant(1, 1);
        together(x, "both none", x.built(0, 0, -1), x.built(0, 0, -1), true);
        together(x, "arguments that go together", x.built(0, 1, one), x.built(0, 1, two), true);
        together(x, "arguments that do not", x.built(0, 1, one), x.built(0, 1, letter), false);
        together(x, "ANY for an argument", x.built(0, 1, x.any()), x.built(0, 1, letter), true);
        int deepOne = x.built(0, 1, x.built(0, 1, one));
        int deepLetter = x.built(0, 1, x.built(0, 1, letter));
        together(x, "arguments' arguments that do not", deepOne, deepLetter, false);
    }

    private static void sameNamesGoTogether() {
        CHECK.term("Two patterns GO TOGETHER if .. of the same .. name, both have an argument"
            + " (and these go together) or both have none");
        RuleTree x = new RuleTree();
        int one = x.constant(0, 1);
        int two = x.constant(0, 2);
        int letter = x.constant(1, 1);
        together(x, "both none", x.name(0, -1), x.name(0, -1), true);
        together(x, "just one", x.name(0, -1), x.name(0, one), false);
        together(x, "just one, ANY", x.name(0, -1), x.name(0, x.any()), false);
        together(x, "arguments that go together", x.name(0, one), x.name(0, two), true);
        together(x, "arguments that do not", x.name(0, one), x.name(0, letter), false);
        together(x, "just one, name MAX", x.name(Integer.MAX_VALUE, -1), x.name(Integer.MAX_VALUE, one), false);
    }

    private static void fieldsGoTogether() {
        CHECK.term("Two patterns GO TOGETHER if .. fields of which both have a pattern go together");
        RuleTree x = new RuleTree();
        int one = x.constant(0, 1);
        int two = x.constant(0, 2);
        int letter = x.constant(1, 1);
        together(x, "different fields", Make.pair(x, one, -1), Make.pair(x, -1, letter), true);
        together(x, "the same field", Make.pair(x, one, -1), Make.pair(x, two, -1), true);
        together(x, "the same field, two sorts", Make.pair(x, one, -1), Make.pair(x, letter, -1), false);
        together(x, "the last field, two sorts", Make.pair(x, one, one), Make.pair(x, two, letter), false);
        together(x, "the last field, ANY", Make.pair(x, one, x.any()), Make.pair(x, two, letter), true);
        together(x, "values", Make.pair(x, one, letter), Make.pair(x, two, letter), true);
        together(x, "values of two sorts", Make.pair(x, one, one), Make.pair(x, letter, one), false);
        together(x, "field 127", Make.recordAt(x, 128, 127, one), Make.recordAt(x, 128, 127, letter), false);
        together(x, "fields 126 and 127", Make.recordAt(x, 128, 126, one), Make.recordAt(x, 128, 127, letter), true);
        x.push(0, one);
        x.push(5, one);
        x.push(9, one);
        int some = x.record(10);
        x.push(1, letter);
        x.push(5, letter);
        x.push(8, letter);
        together(x, "one field of many", some, x.record(10), false);
    }

    /** The first goes together with both of the others, which do not go together. */
    private static void anyTwoRulesGoTogether() {
        CHECK.term("RULES .. each has a pattern, of which any two go together");
        RuleTree x = new RuleTree();
        int one = x.constant(0, 1);
        int letter = x.constant(1, 1);
        CHECK.due("ANY", x.rule(x.any()), 0);
        CHECK.due("(_, _)", x.rule(x.record(2)), 1);
        CHECK.due("(1, _)", x.rule(Make.pair(x, one, -1)), 2);
        CHECK.due("(letter, _)", x.rule(Make.pair(x, letter, -1)), -1);
        CHECK.due("1", x.rule(one), -1);
        CHECK.due("(_, letter)", x.rule(Make.pair(x, -1, letter)), 3);
    }

    private static void sizesOfRulesTogether() {
        CHECK.term("RULES .. their sizes are at most 16,384 together");
        RuleTree x = new RuleTree();
        int any = x.any();
        int size8192 = Make.ofSize(x, 8192, any);
        int size8191 = Make.ofSize(x, 8191, any);
        x.rule(size8192);
        CHECK.due("8,192 twice", x.rule(size8192), 1);
        CHECK.due("and ANY", x.rule(any), -2);
        x.clear();
        x.rule(size8191);
        CHECK.due("8,191 twice", x.rule(size8191), 1);
        CHECK.due("and ANY", x.rule(any), 2);
        CHECK.due("and ANY", x.rule(any), 3);
        CHECK.due("and ANY", x.rule(any), -2);
        CHECK.due("grow()", x.grow(), 1);
    }
}
