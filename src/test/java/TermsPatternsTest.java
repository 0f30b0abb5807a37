import java.util.function.ToIntFunction;

/** The document's section "Terms": families, patterns, sizes, values and paths. */
public final class TermsPatternsTest {
    private static final Check CHECK = new Check();

    private TermsPatternsTest() {
    }

    public static void main(String[] args) {
        familiesFromNought();
        patternsFromNought();
        sizesOfOne();
        sizesOfAllPatternsInIt();
        sizesAsOftenAsTheyAre();
        sizesOfAtMost10000();
        fieldsOfSomeOfThem();
        noAnyInAValue();
        noFieldWithoutAPatternInAValue();
        theWholeFirst();
        aPartBeforeWhatIsInIt();
        fieldsByNumbers();
        whatIsInAFieldBeforeTheNext();
        CHECK.end();
    }

    private static void familiesFromNought() {
        CHECK.term("FAMILIES are numbered from 0");
        RuleTree x = new RuleTree();
        for (int number = 0; number < 64; number++) {
            CHECK.due("family(" + (number + 1) + ", 0)", x.family(number + 1, 0), number);
        }
        for (int number = 0; number < 64; number++) {
            CHECK.due("its last tag", x.built(number, number, -1), number);
            CHECK.due("a tag more", x.built(number, number + 1, -1), -1);
        }
    }

    private static void patternsFromNought() {
        CHECK.term("PATTERNS are numbered from 0 as they are made");
        RuleTree x = new RuleTree();
        x.family(2, 2);
        CHECK.due("record(0)", x.record(0), 0);
        CHECK.due("name(0, 0)", x.name(0, 0), 1);
        CHECK.due("built(0, 1, 1)", x.built(0, 1, 1), 2);
        CHECK.due("name(-1, 0)", x.name(-1, 0), -1);
        CHECK.due("constant(3, 0)", x.constant(3, 0), 3);
        CHECK.due("any()", x.any(), 4);
    }

    private static void sizesOfOne() {
        CHECK.term("each of a SIZE (1 ..)");
        sizeIs("ANY", x -> x.any(), 1);
        sizeIs("a constant", x -> x.constant(2, 255), 1);
        sizeIs("built without an argument", x -> x.built(0, 0, -1), 1);
        sizeIs("a name without an argument", x -> x.name(Integer.MAX_VALUE, -1), 1);
        sizeIs("a record of no fields", x -> x.record(0), 1);
        sizeIs("a record of 128 fields without patterns", x -> x.record(128), 1);
    }

    private static void sizesOfAllPatternsInIt() {
        CHECK.term("each of a SIZE (1 and those of all patterns in it ..)");
        sizeIs("built of a constant", x -> x.built(0, 1, x.constant(0, 0)), 2);
        sizeIs("a name of ANY", x -> x.name(0, x.any()), 2);
        sizeIs("a name of a name of a name", x -> x.name(0, x.name(0, x.name(0, -1))), 3);
        sizeIs("a record of one, of 128 fields", x -> Make.recordAt(x, 128, 127, x.any()), 2);
        sizeIs("a record of ANY and a constant", x -> Make.pair(x, x.any(), x.constant(0, 0)), 3);
        sizeIs("a record of two records", x -> Make.pair(x, x.record(0), Make.recordWith(x, x.any())), 4);
    }

    private static void sizesAsOftenAsTheyAre() {
        CHECK.term("each of a SIZE (.. all patterns in it, as often as they are)");
        sizeIs("a record of 128 times one constant", x -> Make.recordOf(x, 128, 128, x.constant(0, 0)), 129);
        sizeIs("a record of a record twice", x -> {
            int any = x.any();
            int inner = Make.pair(x, any, any);
            return Make.pair(x, inner, inner);
        }, 7);
        sizeIs("sixty-four times the same", x -> Make.leaves(x, 64, x.any()), 127);
    }

    /** With what fills it up to 10,000 it is taken, with one more it is FULL. */
    private static void sizeIs(String what, ToIntFunction<RuleTree> maker, int size) {
        RuleTree x = new RuleTree();
        x.family(2, 2);
        int pattern = maker.applyAsInt(x);
        int any = x.any();
        int fitting = Make.ofSize(x, 9999 - size, any);
        int tooLarge = Make.ofSize(x, 10000 - size, any);
        int made = x.count(1);
        CHECK.due(what + ", filled up to 10,000", Make.pair(x, pattern, fitting), made);
        CHECK.due(what + ", filled up to 10,001", Make.pair(x, pattern, tooLarge), -2);
    }

    private static void sizesOfAtMost10000() {
        CHECK.term("each of a SIZE .. of at most 10,000");
        RuleTree x = new RuleTree();
        x.family(1, 1);
        int any = x.any();
        int size9999 = Make.ofSize(x, 9999, any);
        int made = size9999 + 1;
        CHECK.due("built of 9,999", x.built(0, 0, size9999), made);
        CHECK.due("a name of 9,999", x.name(0, size9999), made + 1);
        CHECK.due("a record of 9,999", Make.recordWith(x, size9999), made + 2);
        for (int size10000 = made; size10000 < made + 3; size10000++) {
            CHECK.due("built of 10,000", x.built(0, 0, size10000), -2);
            CHECK.due("a name of 10,000", x.name(0, size10000), -2);
        }
        CHECK.due("a record of 10,000", Make.recordWith(x, made), -2);
        CHECK.due("it stays pushed", x.count(2), 1);
        CHECK.due("count(1)", x.count(1), made + 3);
        CHECK.due("a pattern of 10,000 is a rule", x.rule(made + 2), 0);
    }

    private static void fieldsOfSomeOfThem() {
        CHECK.term("a RECORD of 0 .. 128 fields .. with a pattern for each of some of them (for the others it is ANY)");
        RuleTree x = new RuleTree();
        int one = x.constant(0, 1);
        int letter = x.constant(1, 1);
        x.rule(Make.recordAt(x, 128, 64, one));
        x.rule(Make.recordAt(x, 128, 0, letter));
        x.rule(Make.recordAt(x, 128, 127, letter));
        CHECK.due("fits", x.fits(with128(x, letter, one)), true);
        CHECK.due("first, field 64", x.first(with128(x, letter, one)), 0);
        CHECK.due("first, field 0", x.first(with128(x, letter, x.constant(0, 2))), 1);
    }

    /** All fields alike, but for the one in the middle. */
    private static int with128(RuleTree x, int pattern, int middle) {
        x.push(64, middle);
        for (int field = 0; field < 128; field++) {
            x.push(field, pattern);
        }
        return x.record(128);
    }

    private static void noAnyInAValue() {
        CHECK.term("A VALUE is a pattern in which there is no ANY");
        RuleTree x = new RuleTree();
        x.family(1, 1);
        int any = x.any();
        int one = x.constant(0, 1);
        valueIs(x, "ANY", any, false);
        valueIs(x, "a constant", one, true);
        valueIs(x, "built of ANY", x.built(0, 0, any), false);
        valueIs(x, "built of a constant", x.built(0, 0, one), true);
        valueIs(x, "a name of ANY", x.name(0, any), false);
        valueIs(x, "a name of a constant", x.name(0, one), true);
        valueIs(x, "a name without an argument", x.name(0, -1), true);
        valueIs(x, "(1, ANY)", Make.pair(x, one, any), false);
        valueIs(x, "(ANY, 1)", Make.pair(x, any, one), false);
        valueIs(x, "(1, 1)", Make.pair(x, one, one), true);
        int deep = any;
        int deepValue = one;
        for (int level = 0; level < 100; level++) {
            deep = x.name(level, deep);
            deepValue = x.name(level, deepValue);
        }
        valueIs(x, "ANY a hundred levels deep", deep, false);
        valueIs(x, "a constant a hundred levels deep", deepValue, true);
    }

    private static void noFieldWithoutAPatternInAValue() {
        CHECK.term("A VALUE is a pattern in which there is .. no field of a record without a pattern");
        RuleTree x = new RuleTree();
        x.family(1, 1);
        int one = x.constant(0, 1);
        int open = x.record(1);
        valueIs(x, "a record of no fields", x.record(0), true);
        valueIs(x, "a record of one field without a pattern", open, false);
        valueIs(x, "the first of two without", Make.pair(x, -1, one), false);
        valueIs(x, "the last of two without", Make.pair(x, one, -1), false);
        valueIs(x, "such a record in a name", x.name(0, open), false);
        valueIs(x, "such a record in what is built", x.built(0, 0, open), false);
        valueIs(x, "such a record in a record", Make.pair(x, one, open), false);
        valueIs(x, "127 of 128", Make.recordOf(x, 128, 127, one), false);
        valueIs(x, "128 of 128", Make.recordOf(x, 128, 128, one), true);
    }

    private static void valueIs(RuleTree x, String what, int pattern, boolean value) {
        CHECK.due(what, x.fits(pattern), value);
    }

    /** Of a rule and a value that differ at two parts just the first is looked at. */
    private static void firstIs(RuleTree x, String what, int rule, int value) {
        x.clear();
        x.rule(rule);
        x.grow();
        CHECK.due(what, x.looks(value), 1);
        CHECK.due(what + ", no rule", x.run(value), -1);
    }

    private static void theWholeFirst() {
        CHECK.term("PARTS of a value are told by PATHS: the whole");
        RuleTree x = new RuleTree();
        x.rule(x.constant(0, 4));
        x.grow();
        CHECK.due("the whole at the path of no steps", x.missing(0, 0), 1);
        CHECK.due("no other part", x.missing(1, 0), -1);
    }

    private static void aPartBeforeWhatIsInIt() {
        CHECK.term("Of two parts the one with the lesser path comes first: a part before what is in it");
        RuleTree x = new RuleTree();
        x.family(3, 3);
        int one = x.constant(0, 1);
        int two = x.constant(0, 2);
        firstIs(x, "a constructor", x.built(0, 0, one), x.built(0, 1, two));
        firstIs(x, "a name", x.name(0, one), x.name(1, two));
        firstIs(x, "a name of a name", x.name(0, x.name(0, -1)), x.name(1, x.name(1, -1)));
    }

    private static void fieldsByNumbers() {
        CHECK.term("Of two parts the one with the lesser path comes first: .. fields by numbers");
        RuleTree x = new RuleTree();
        int one = x.constant(0, 1);
        int two = x.constant(0, 2);
        firstIs(x, "(1, 1) and (2, 1)", Make.pair(x, one, one), Make.pair(x, two, one));
        x.push(127, one);
        x.push(2, one);
        x.push(63, one);
        x.push(0, one);
        x.clear();
        x.rule(x.record(128));
        CHECK.due("grow()", x.grow(), 9);
        CHECK.due("missing, field 0", x.missing(1, 1), 1);
        CHECK.due("missing, field 2", x.missing(3, 1), 1);
        CHECK.due("missing, field 63", x.missing(64, 1), 1);
        CHECK.due("missing, field 127, the last", x.missing(128, 1), 0);
    }

    private static void whatIsInAFieldBeforeTheNext() {
        CHECK.term("Of two parts the one with the lesser path comes first .. what is in a field before the next field");
        RuleTree x = new RuleTree();
        int one = x.constant(0, 1);
        int two = x.constant(0, 2);
        int deep = x.name(3, x.name(4, one));
        x.rule(Make.pair(x, deep, one));
        x.grow();
        CHECK.due("missing, in field 0", x.missing(Make.path(1, 1, 1), 1), 1);
        CHECK.due("missing, field 1, the last", x.missing(2, 1), 0);
        int value = Make.pair(x, x.name(3, x.name(4, two)), two);
        CHECK.due("looks ends in field 0", x.looks(value), 3);
        x.clear();
        x.rule(Make.pair(x, Make.pair(x, -1, one), one));
        x.grow();
        CHECK.due("missing, in a record in field 0", x.missing(Make.path(1, 2), 1), 1);
        CHECK.due("missing, field 1, the last", x.missing(2, 1), 0);
    }
}
