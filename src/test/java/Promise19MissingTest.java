/** Promise 19: missing. What the missing value is, TermsMissingValueTest asks. */
public final class Promise19MissingTest {
    private static final Check CHECK = new Check();

    private Promise19MissingTest() {
    }

    public static void main(String[] args) {
        whatAPartIs();
        whichOneItIs();
        numbersBelowNought();
        stepsInBytes();
        stepsUpToTheFirstNought();
        eightSteps();
        stepsAtTheEdgesOfAByte();
        noneWithoutATree();
        noneWhenNothingIsMissing();
        noneOfThatKind();
        noneForAnotherWhat();
        theWholeIsAlwaysThere();
        argumentsOfConstructors();
        argumentsOfNames();
        argumentsOfNamesInARuleThere();
        fieldsOfRecords();
        fieldsOfRecordsThatAreNotTold();
        nothingBelowConstantsAndAny();
        changesNothing();
        CHECK.end();
    }

    private static void whatAPartIs() {
        CHECK.sentence(19, "0 ANY, 1 a constant, 2 built, 3 a name, 4 a record (what = 0)");
        RuleTree x = new RuleTree();
        x.family(2, 0);
        int record = Make.recordWith(x, x.constant(0, 1), x.built(0, 1, -1), x.name(3, -1), -1, x.record(0));
        x.rule(record);
        x.grow();
        // The first end without a rule has the rule's constant and constructor, and another name.
        CHECK.due("the whole, a record", x.missing(0, 0), 4);
        CHECK.due("field 0, a constant", x.missing(1, 0), 1);
        CHECK.due("field 1, built", x.missing(2, 0), 2);
        CHECK.due("field 2, a name", x.missing(3, 0), 3);
        CHECK.due("field 3, ANY", x.missing(4, 0), 0);
        CHECK.due("field 4, ANY, for nothing is looked at there", x.missing(5, 0), 0);
        x.clear();
        x.grow();
        CHECK.due("the whole, ANY", x.missing(0, 0), 0);
    }

    private static void whichOneItIs() {
        CHECK.sentence(19, "a constant's number, a tag, a name (1)");
        RuleTree x = new RuleTree();
        x.family(64, 0);
        x.rule(Make.recordWith(x, x.constant(0, Integer.MAX_VALUE), x.built(0, 63, -1), x.name(Integer.MAX_VALUE, -1),
            x.constant(2, 255), x.constant(3, 0)));
        x.grow();
        CHECK.due("a constant's number", x.missing(1, 1), Integer.MAX_VALUE);
        CHECK.due("a tag", x.missing(2, 1), 63);
        CHECK.due("a name", x.missing(3, 1), Integer.MAX_VALUE);
        CHECK.due("a constant of kind 2", x.missing(4, 1), 255);
        CHECK.due("the least other constant", x.missing(5, 1), 1);
    }

    private static void numbersBelowNought() {
        CHECK.sentence(19, "a constant's number .. below 0 too");
        int[] numbers = {-1, -2, -3, -4, Integer.MIN_VALUE};
        for (int number : numbers) {
            RuleTree x = new RuleTree();
            int constant = x.constant(1, number);
            x.rule(Make.pair(x, constant, constant));
            x.grow();
            CHECK.due("missing(1, 0)", x.missing(1, 0), 1);
            CHECK.due("missing(1, 1)", x.missing(1, 1), number);
            CHECK.due("missing(2, 1)", x.missing(2, 1), 0);
        }
    }

    private static void stepsInBytes() {
        CHECK.sentence(19, "bytes, the lowest first .. are its steps");
        RuleTree x = new RuleTree();
        int one = x.constant(0, 1);
        int three = x.constant(0, 3);
        int inner = Make.recordWith(x, -1, one, -1);
        x.rule(Make.recordWith(x, -1, -1, inner, three));
        x.grow();
        CHECK.due("field 2, field 1", x.missing(0x0203, 1), 1);
        CHECK.due("field 1, field 2, where nothing is told", x.missing(0x0302, 0), -1);
        CHECK.due("field 2", x.missing(0x03, 0), 4);
        CHECK.due("field 3", x.missing(0x04, 1), 0);
        CHECK.due("field 2, field 0", x.missing(0x0103, 0), 0);
        CHECK.due("field 2, field 3", x.missing(0x0403, 0), -1);
    }

    private static void stepsUpToTheFirstNought() {
        CHECK.sentence(19, "up to the first that is 0");
        RuleTree x = new RuleTree();
        int seven = x.constant(0, 7);
        x.rule(Make.pair(x, seven, Make.pair(x, seven, seven)));
        x.grow();
        CHECK.due("the whole, behind it a step", x.missing(0x0100L, 0), 4);
        CHECK.due("the whole, behind it all bytes", x.missing(0xFFFFFFFFFFFFFF00L, 0), 4);
        CHECK.due("the whole, MIN", x.missing(Long.MIN_VALUE, 0), 4);
        CHECK.due("field 0, behind a 0 a step", x.missing(0x010001L, 1), 7);
        CHECK.due("field 0, behind a 0 all bytes", x.missing(0xFFFFFFFFFFFF0001L, 1), 7);
        CHECK.due("field 1's field 1, behind a 0 the last byte", x.missing(0x8000000000000202L, 1), 0);
        CHECK.due("field 0, and no 0 before the step", x.missing(0x0101L, 1), -1);
    }

    /** Eight bytes reach eight steps deep, and no further. */
    private static void eightSteps() {
        CHECK.sentence(19, "bytes .. are its steps .. all eight of them");
        RuleTree x = new RuleTree();
        int pattern = x.constant(0, 5);
        for (int e = 1; e <= 9; e++) {
            pattern = x.name(e, pattern);
        }
        x.rule(pattern);
        x.grow();
        long path = 0;
        for (int steps = 0; steps <= 8; steps++) {
            CHECK.due(steps + " steps, a name", x.missing(path, 0), 3);
            CHECK.due(steps + " steps, which", x.missing(path, 1), 9 - steps);
            path = path << 8 | 1;
        }
        for (int at = 0; at < 8; at++) {
            long wrong = 0x0101010101010101L ^ 3L << 8 * at;
            CHECK.due("step 2 at " + at, x.missing(wrong, 0), -1);
            long shorter = 0x0101010101010101L & ~(255L << 8 * at);
            CHECK.due("0 at " + at, x.missing(shorter, 1), 9 - at);
        }
    }

    private static void stepsAtTheEdgesOfAByte() {
        CHECK.sentence(19, "bytes .. are its steps .. from 1 to 255, in the highest byte too");
        RuleTree x = new RuleTree();
        int six = x.constant(0, 6);
        int pattern = Make.recordAt(x, 128, 127, six);
        for (int e = 0; e < 7; e++) {
            pattern = x.name(e, pattern);
        }
        x.rule(pattern);
        x.grow();
        CHECK.due("the record", x.missing(0x0001010101010101L, 0), 4);
        CHECK.due("step 128 in the highest byte", x.missing(0x8001010101010101L, 0), 1);
        CHECK.due("which", x.missing(0x8001010101010101L, 1), 0);
        CHECK.due("step 1 in the highest byte", x.missing(0x0101010101010101L, 0), 0);
        CHECK.due("step 127 in the highest byte", x.missing(Make.path(1, 1, 1, 1, 1, 1, 1, 127), 0), 0);
        CHECK.due("step 129 in the highest byte", x.missing(Make.path(1, 1, 1, 1, 1, 1, 1, 129), 0), -1);
        CHECK.due("step 255 in the highest byte", x.missing(Make.path(1, 1, 1, 1, 1, 1, 1, 255), 0), -1);
        CHECK.due("steps 255 alone", x.missing(-1L, 0), -1);
        CHECK.due("MAX", x.missing(Long.MAX_VALUE, 0), -1);
        CHECK.due("step 255", x.missing(255, 0), -1);
        CHECK.due("step 128", x.missing(128, 0), -1);
    }

    private static void noneWithoutATree() {
        CHECK.sentence(19, "NONE when there is no tree");
        RuleTree x = new RuleTree();
        CHECK.due("of a new object", x.missing(0, 0), -1);
        int one = x.constant(0, 1);
        x.rule(one);
        CHECK.due("before grow()", x.missing(0, 0), -1);
        x.grow();
        CHECK.due("after grow()", x.missing(0, 0), 1);
        x.rule(one);
        CHECK.due("after another rule", x.missing(0, 0), -1);
        x.grow();
        x.clear();
        CHECK.due("after clear()", x.missing(0, 0), -1);
        CHECK.due("after clear(), which", x.missing(0, 1), -1);
    }

    private static void noneWhenNothingIsMissing() {
        CHECK.sentence(19, "NONE when .. nothing is missing");
        RuleTree x = new RuleTree();
        x.family(2, 2);
        int any = x.any();
        x.rule(any);
        x.grow();
        CHECK.due("of ANY", x.missing(0, 0), -1);
        x.clear();
        x.rule(x.built(0, 0, -1));
        x.rule(x.built(0, 1, any));
        x.grow();
        CHECK.due("of all constructors", x.missing(0, 0), -1);
        CHECK.due("of all constructors, which", x.missing(0, 1), -1);
        CHECK.due("of all constructors, step 1", x.missing(1, 0), -1);
        x.clear();
        x.rule(x.record(3));
        x.grow();
        CHECK.due("of a record without patterns", x.missing(0, 0), -1);
        CHECK.due("of a record without patterns, field 0", x.missing(1, 0), -1);
    }

    private static void noneOfThatKind() {
        CHECK.sentence(19, "NONE when .. nothing of that kind");
        RuleTree x = new RuleTree();
        int one = x.constant(0, 1);
        x.rule(Make.pair(x, one, -1));
        x.grow();
        CHECK.due("which record", x.missing(0, 1), -1);
        CHECK.due("which ANY", x.missing(2, 1), -1);
        CHECK.due("which constant", x.missing(1, 1), 0);
        x.clear();
        x.grow();
        CHECK.due("which ANY, the whole", x.missing(0, 1), -1);
    }

    private static void noneForAnotherWhat() {
        CHECK.sentence(19, "NONE when .. nothing of that kind .. as what is not 0 or 1");
        int[] others = {2, 3, 4, 5, -1, -2, 256, Integer.MIN_VALUE, Integer.MAX_VALUE};
        for (int what : others) {
            Twins.unchangedInAllScenes(CHECK, "missing(0, " + what + ")", x -> x.missing(0, what), -1);
            Twins.unchangedInAllScenes(CHECK, "missing(1, " + what + ")", x -> x.missing(1, what), -1);
        }
    }

    private static void theWholeIsAlwaysThere() {
        CHECK.sentence(19, "NONE when the part is not the whole");
        RuleTree x = new RuleTree();
        x.grow();
        CHECK.due("the whole", x.missing(0, 0), 0);
        for (int step = 1; step <= 255; step++) {
            CHECK.due("step " + step, x.missing(step, 0), -1);
        }
    }

    private static void argumentsOfConstructors() {
        CHECK.sentence(19, "nor the argument of a constructor that has one");
        RuleTree x = new RuleTree();
        x.family(4, 10);
        int any = x.any();
        int one = x.constant(0, 1);
        x.rule(x.built(0, 1, one));
        x.grow();
        CHECK.due("tag 1", x.missing(0, 1), 1);
        CHECK.due("its argument", x.missing(1, 0), 1);
        CHECK.due("its argument, which", x.missing(1, 1), 0);
        CHECK.due("step 2", x.missing(2, 0), -1);
        CHECK.due("below its argument", x.missing(Make.path(1, 1), 0), -1);
        x.rule(x.built(0, 1, any));
        x.grow();
        CHECK.due("tag 0", x.missing(0, 1), 0);
        CHECK.due("which has no argument", x.missing(1, 0), -1);
        x.rule(x.built(0, 0, -1));
        x.rule(x.built(0, 2, -1));
        x.grow();
        CHECK.due("tag 3", x.missing(0, 1), 3);
        CHECK.due("its argument, of which no rule tells", x.missing(1, 0), 0);
        CHECK.due("its argument, which", x.missing(1, 1), -1);
        CHECK.due("step 2", x.missing(2, 0), -1);
        CHECK.due("below its argument", x.missing(Make.path(1, 1), 0), -1);
    }

    private static void argumentsOfNames() {
        CHECK.sentence(19, "or of a name that has one in some rule");
        RuleTree x = new RuleTree();
        int one = x.constant(0, 1);
        x.rule(x.name(0, one));
        x.grow();
        CHECK.due("name 0", x.missing(0, 1), 0);
        CHECK.due("its argument", x.missing(1, 0), 1);
        CHECK.due("its argument, which", x.missing(1, 1), 0);
        CHECK.due("step 2", x.missing(2, 0), -1);
        x.rule(x.name(0, x.any()));
        x.grow();
        CHECK.due("name 1, which no rule has", x.missing(0, 1), 1);
        CHECK.due("without an argument", x.missing(1, 0), -1);
        x.clear();
        x.rule(Make.pair(x, x.name(4, -1), one));
        x.grow();
        CHECK.due("name 4, which has none in the rule", x.missing(1, 1), 4);
        CHECK.due("without an argument", x.missing(Make.path(1, 1), 0), -1);
        x.clear();
        x.rule(Make.pair(x, x.name(4, x.any()), one));
        x.grow();
        CHECK.due("name 4, which has one in the rule", x.missing(1, 1), 4);
        CHECK.due("ANY", x.missing(Make.path(1, 1), 0), 0);
        CHECK.due("below it", x.missing(Make.path(1, 1, 1), 0), -1);
    }

    /**
     * The name that is told goes by the last branch, but a rule that is not possible there has it with an
     * argument: the document says "in some rule there", so the missing value goes together with that rule too.
     */
    private static void argumentsOfNamesInARuleThere() {
        CHECK.sentence(19, "or of a name that has one in some rule there");
        RuleTree x = new RuleTree();
        int one = x.constant(0, 1);
        int two = x.constant(0, 2);
        x.rule(Make.pair(x, one, x.name(0, x.any())));
        x.rule(Make.pair(x, one, -1));
        x.rule(Make.pair(x, two, x.name(5, -1)));
        x.grow();
        CHECK.due("field 0", x.missing(1, 1), 2);
        CHECK.due("field 1", x.missing(2, 0), 3);
        CHECK.due("field 1's name", x.missing(2, 1), 0);
        CHECK.due("its argument", x.missing(0x0102, 0), 0);
    }

    private static void fieldsOfRecords() {
        CHECK.sentence(19, "nor a field of a record that is told");
        int[] numbers = {1, 2, 127, 128};
        for (int n : numbers) {
            RuleTree x = new RuleTree();
            x.rule(Make.recordAt(x, n, 0, x.constant(0, 1)));
            x.grow();
            CHECK.due("of " + n + ", field 0", x.missing(1, 0), 1);
            for (int field = 1; field < n; field++) {
                CHECK.due("of " + n + ", field " + field, x.missing(field + 1, 0), 0);
            }
            for (int field = n; field < 255; field++) {
                CHECK.due("of " + n + ", field " + field, x.missing(field + 1, 0), -1);
            }
        }
    }

    private static void fieldsOfRecordsThatAreNotTold() {
        CHECK.sentence(19, "nor a field of a record that is told .. not of one that is ANY");
        RuleTree x = new RuleTree();
        int one = x.constant(0, 1);
        int two = x.constant(0, 2);
        x.rule(Make.pair(x, one, Make.recordWith(x, one)));
        x.grow();
        CHECK.due("field 1, told", x.missing(2, 0), 4);
        CHECK.due("its field 0", x.missing(Make.path(2, 1), 0), 1);
        x.rule(Make.pair(x, one, -1));
        x.rule(Make.pair(x, two, Make.recordWith(x, -1)));
        x.grow();
        CHECK.due("field 0", x.missing(1, 1), 0);
        CHECK.due("field 1, not told", x.missing(2, 0), 0);
        CHECK.due("its field 0", x.missing(Make.path(2, 1), 0), -1);
    }

    private static void nothingBelowConstantsAndAny() {
        CHECK.sentence(19, "NONE when the part is not the whole, nor .. what stands below a constant or ANY");
        RuleTree x = new RuleTree();
        int one = x.constant(0, 1);
        x.rule(Make.pair(x, one, -1));
        x.grow();
        for (int step = 1; step <= 255; step++) {
            CHECK.due("below a constant, step " + step, x.missing(Make.path(1, step), 0), -1);
        }
        CHECK.due("below ANY, step 1", x.missing(Make.path(2, 1), 0), -1);
        CHECK.due("below ANY, step 255", x.missing(Make.path(2, 255), 0), -1);
        CHECK.due("below what is not there", x.missing(Make.path(3, 1), 0), -1);
    }

    private static void changesNothing() {
        CHECK.sentence(19, "Of the missing value, the part at a path .. and nothing changes");
        Twins.unchanged(CHECK, Scenes.RICH, "the whole", x -> x.missing(0, 0), 4);
        Twins.unchanged(CHECK, Scenes.RICH, "field 0", x -> x.missing(1, 1), 1);
        Twins.unchanged(CHECK, Scenes.RICH, "field 1", x -> x.missing(2, 1), 1);
        Twins.unchanged(CHECK, Scenes.RICH, "its argument", x -> x.missing(0x0102, 1), 0);
        Twins.unchanged(CHECK, Scenes.RICH, "field 2", x -> x.missing(3, 0), -1);
        Twins.unchangedInAllScenes(CHECK, "missing(-1, 0)", x -> x.missing(-1, 0), -1);
        Twins.unchangedInAllScenes(CHECK, "missing(MAX, 1)", x -> x.missing(Long.MAX_VALUE, 1), -1);
    }
}
