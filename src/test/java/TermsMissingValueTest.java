/** The document's section "Terms": the missing value. */
public final class TermsMissingValueTest {
    private static final Check CHECK = new Check();

    private TermsMissingValueTest() {
    }

    public static void main(String[] args) {
        theFirstEndOnTheWay();
        notTheEndThatIsNearest();
        theLastBranchComesLast();
        whatIsLookedAtIsSo();
        leastConstants();
        leastBytes();
        leastTags();
        leastNames();
        leastOfTheBranchesThere();
        allElseIsAny();
        belowSuchFieldsARecord();
        recordsInRecords();
        recordsInArguments();
        ofTheTreeThatThereIs();
        notOfATreeBefore();
        CHECK.end();
    }

    private static void theFirstEndOnTheWay() {
        CHECK.term("Of the ends without a rule, the first one on the way through the tree, branches in order");
        RuleTree x = new RuleTree();
        int one = x.constant(0, 1);
        int two = x.constant(0, 2);
        int three = x.constant(0, 3);
        x.rule(Make.pair(x, three, one));
        x.rule(Make.pair(x, two, one));
        x.rule(Make.pair(x, one, -1));
        x.grow();
        CHECK.due("below 1 nothing is missing, below 2 the first", x.missing(1, 1), 2);
        CHECK.due("field 1", x.missing(2, 1), 0);
        x.rule(Make.pair(x, two, -1));
        x.grow();
        CHECK.due("below 2 nothing is missing, below 3 the first", x.missing(1, 1), 3);
        x.rule(Make.pair(x, three, -1));
        x.grow();
        CHECK.due("below 3 nothing is missing", x.missing(1, 1), 0);
        CHECK.due("field 1", x.missing(2, 0), 0);
    }

    private static void notTheEndThatIsNearest() {
        CHECK.term("the first one on the way .. not the one with the fewest parts");
        RuleTree x = new RuleTree();
        int one = x.constant(0, 1);
        x.rule(Make.recordWith(x, one, one, one));
        x.grow();
        CHECK.due("field 0", x.missing(1, 1), 1);
        CHECK.due("field 1", x.missing(2, 1), 1);
        CHECK.due("field 2", x.missing(3, 1), 0);
    }

    private static void theLastBranchComesLast() {
        CHECK.term("branches in order .. the one for all others last");
        RuleTree x = new RuleTree();
        int five = x.constant(0, 5);
        int nine = x.constant(0, 9);
        x.rule(Make.pair(x, five, nine));
        x.rule(Make.pair(x, nine, nine));
        x.grow();
        // The least other number, 0, is below 5, but its branch comes behind.
        CHECK.due("field 0", x.missing(1, 1), 5);
        CHECK.due("field 1", x.missing(2, 1), 0);
    }

    private static void whatIsLookedAtIsSo() {
        CHECK.term("what is looked at on the way to it, is so");
        RuleTree x = new RuleTree();
        x.family(2, 2);
        int minus = x.constant(1, -7);
        int inner = x.built(0, 1, x.name(12, minus));
        x.rule(Make.pair(x, inner, minus));
        x.grow();
        CHECK.due("field 0, built", x.missing(1, 0), 2);
        CHECK.due("field 0, its tag", x.missing(1, 1), 1);
        CHECK.due("in it a name", x.missing(Make.path(1, 1), 0), 3);
        CHECK.due("which", x.missing(Make.path(1, 1), 1), 12);
        CHECK.due("in it a constant", x.missing(Make.path(1, 1, 1), 0), 1);
        CHECK.due("which", x.missing(Make.path(1, 1, 1), 1), -7);
        CHECK.due("field 1, the last, is another", x.missing(2, 1), 0);
    }

    private static void least(RuleTree x, String what, int due, int... patterns) {
        x.clear();
        for (int pattern : patterns) {
            x.rule(pattern);
        }
        x.grow();
        CHECK.due("the least beside " + what, x.missing(0, 1), due);
    }

    private static void leastConstants() {
        CHECK.term("where it goes by the last branch for all others, the least .. number .. from 0 on"
            + " that no other branch there has");
        RuleTree x = new RuleTree();
        int least = x.constant(0, Integer.MIN_VALUE);
        int less = x.constant(0, -1);
        int nought = x.constant(0, 0);
        int one = x.constant(0, 1);
        int two = x.constant(0, 2);
        int most = x.constant(0, Integer.MAX_VALUE);
        least(x, "0", 1, nought);
        least(x, "1", 0, one);
        least(x, "-1", 0, less);
        least(x, "MIN and MAX", 0, least, most);
        least(x, "MAX, 0, MIN", 1, most, nought, least);
        least(x, "2, 0", 1, two, nought);
        least(x, "2, 1, 0, -1", 3, two, one, nought, less);
        least(x, "1, -1, 2", 0, one, less, two);
        least(x, "0, 0, 0", 1, nought, nought, nought);
    }

    private static void leastBytes() {
        CHECK.term("the least .. number .. from 0 on that no other branch there has .. of kind 2");
        RuleTree x = new RuleTree();
        least(x, "255", 0, x.constant(2, 255));
        least(x, "0, 255", 1, x.constant(2, 0), x.constant(2, 255));
        x.clear();
        for (int number = 0; number < 200; number++) {
            x.rule(x.constant(2, number));
        }
        x.grow();
        CHECK.due("the least beside 0 .. 199", x.missing(0, 1), 200);
    }

    private static void leastTags() {
        CHECK.term("the least tag .. from 0 on that no other branch there has");
        RuleTree x = new RuleTree();
        x.family(64, 0);
        int[] tags = new int[63];
        for (int tag = 0; tag < 63; tag++) {
            tags[tag] = x.built(0, tag, -1);
        }
        least(x, "tags 0 .. 62", 63, tags);
        least(x, "tag 0", 1, tags[0]);
        least(x, "tag 1", 0, tags[1]);
        least(x, "tags 3, 1, 0", 2, tags[3], tags[1], tags[0]);
        int last = x.built(0, 63, -1);
        least(x, "tag 63", 0, last);
        x.clear();
        for (int tag = 0; tag < 63; tag++) {
            if (tag != 31) {
                x.rule(tags[tag]);
            }
        }
        x.rule(last);
        x.grow();
        CHECK.due("the least beside all but 31", x.missing(0, 1), 31);
    }

    private static void leastNames() {
        CHECK.term("the least .. name from 0 on that no other branch there has");
        RuleTree x = new RuleTree();
        least(x, "MAX", 0, x.name(Integer.MAX_VALUE, -1));
        least(x, "0", 1, x.name(0, -1));
        least(x, "1", 0, x.name(1, -1));
        least(x, "0, 1, 3", 2, x.name(0, -1), x.name(1, -1), x.name(3, -1));
    }

    /** A rule that is not possible there has no branch there, so its number is not taken. */
    private static void leastOfTheBranchesThere() {
        CHECK.term("that no other branch there has .. whatever other rules have");
        RuleTree x = new RuleTree();
        int nought = x.constant(0, 0);
        int one = x.constant(0, 1);
        int two = x.constant(0, 2);
        x.rule(Make.pair(x, one, nought));
        x.rule(Make.pair(x, one, -1));
        x.rule(Make.pair(x, two, one));
        x.grow();
        CHECK.due("field 0", x.missing(1, 1), 2);
        CHECK.due("field 1", x.missing(2, 1), 0);
        x.rule(Make.pair(x, two, nought));
        x.grow();
        CHECK.due("field 1, with a branch for 0", x.missing(2, 1), 2);
    }

    private static void allElseIsAny() {
        CHECK.term("(All else is ANY");
        RuleTree x = new RuleTree();
        x.family(2, 3);
        int one = x.constant(0, 1);
        int two = x.constant(0, 2);
        x.rule(Make.recordWith(x, one, x.built(0, 0, one), -1));
        x.rule(Make.recordWith(x, one, -1, -1));
        x.rule(Make.recordWith(x, two, x.built(0, 1, one), x.name(0, -1)));
        x.rule(Make.recordWith(x, two, -1, -1));
        x.grow();
        CHECK.due("the whole, below which something is told", x.missing(0, 0), 4);
        CHECK.due("field 0, looked at", x.missing(1, 1), 0);
        CHECK.due("field 1, not looked at on this way", x.missing(2, 0), 0);
        CHECK.due("field 2, not looked at on this way", x.missing(3, 0), 0);
        CHECK.due("field 1's argument is not there", x.missing(Make.path(2, 1), 0), -1);
        x.clear();
        x.rule(x.built(0, 0, one));
        x.rule(x.built(0, 0, x.any()));
        x.grow();
        CHECK.due("tag 1", x.missing(0, 1), 1);
        CHECK.due("its argument", x.missing(1, 0), 0);
    }

    private static void belowSuchFieldsARecord() {
        CHECK.term("a part below which there are such fields is a record.)");
        RuleTree x = new RuleTree();
        x.rule(Make.recordAt(x, 128, 127, x.constant(0, 0)));
        x.grow();
        CHECK.due("the whole", x.missing(0, 0), 4);
        CHECK.due("which", x.missing(0, 1), -1);
        CHECK.due("field 127", x.missing(128, 0), 1);
        CHECK.due("which", x.missing(128, 1), 1);
        CHECK.due("field 126", x.missing(127, 0), 0);
        CHECK.due("field 128", x.missing(129, 0), -1);
    }

    private static void recordsInRecords() {
        CHECK.term("a part below which there are such fields is a record .. in another");
        RuleTree x = new RuleTree();
        int zero = x.constant(0, 0);
        int inner = Make.recordWith(x, -1, zero);
        int middle = Make.recordWith(x, inner);
        x.rule(Make.recordWith(x, -1, -1, middle));
        x.grow();
        CHECK.due("the whole", x.missing(0, 0), 4);
        CHECK.due("field 2", x.missing(Make.path(3), 0), 4);
        CHECK.due("its field 0", x.missing(Make.path(3, 1), 0), 4);
        CHECK.due("its field 1", x.missing(Make.path(3, 1, 2), 0), 1);
        CHECK.due("which", x.missing(Make.path(3, 1, 2), 1), 1);
        CHECK.due("its field 0, ANY", x.missing(Make.path(3, 1, 1), 0), 0);
        CHECK.due("a field too many in the innermost", x.missing(Make.path(3, 1, 3), 0), -1);
        CHECK.due("a field too many in the middle", x.missing(Make.path(3, 2), 0), -1);
    }

    private static void recordsInArguments() {
        CHECK.term("a part below which there are such fields is a record .. in an argument");
        RuleTree x = new RuleTree();
        x.family(1, 1);
        int zero = x.constant(0, 0);
        x.rule(x.built(0, 0, Make.pair(x, -1, x.name(6, Make.recordWith(x, zero)))));
        x.grow();
        CHECK.due("the whole, built", x.missing(0, 0), 2);
        CHECK.due("its argument, a record", x.missing(Make.path(1), 0), 4);
        CHECK.due("its field 1, a name", x.missing(Make.path(1, 2), 1), 6);
        CHECK.due("its argument, a record", x.missing(Make.path(1, 2, 1), 0), 4);
        CHECK.due("its field 0, a constant", x.missing(Make.path(1, 2, 1, 1), 1), 1);
        // Once the name has a rule of its own, the way ends at another name.
        x.rule(x.built(0, 0, Make.pair(x, -1, x.name(6, x.any()))));
        x.grow();
        CHECK.due("its field 1, another name", x.missing(Make.path(1, 2), 1), 0);
        CHECK.due("which has no argument", x.missing(Make.path(1, 2, 1), 0), -1);
    }

    private static void ofTheTreeThatThereIs() {
        CHECK.term("THE MISSING VALUE .. of the tree that was made last");
        RuleTree x = new RuleTree();
        int one = x.constant(0, 1);
        x.rule(Make.pair(x, one, one));
        x.grow();
        CHECK.due("a record", x.missing(0, 0), 4);
        x.clear();
        x.rule(x.name(0, -1));
        x.grow();
        CHECK.due("a name", x.missing(0, 0), 3);
        CHECK.due("which", x.missing(0, 1), 1);
        CHECK.due("no fields any more", x.missing(1, 0), -1);
        x.clear();
        x.grow();
        CHECK.due("ANY", x.missing(0, 0), 0);
        x.rule(x.any());
        x.grow();
        CHECK.due("nothing", x.missing(0, 0), -1);
    }

    /** The tree before has more branches at each node and more nodes. */
    private static void notOfATreeBefore() {
        CHECK.term("THE MISSING VALUE .. whatever tree there was before");
        RuleTree x = new RuleTree();
        int[] numbers = new int[12];
        for (int number = 0; number < 12; number++) {
            numbers[number] = x.constant(0, number);
            x.rule(numbers[number]);
        }
        CHECK.due("grow()", x.grow(), 14);
        CHECK.due("the least", x.missing(0, 1), 12);
        x.clear();
        x.rule(Make.pair(x, numbers[5], numbers[7]));
        x.rule(Make.pair(x, numbers[6], numbers[0]));
        CHECK.due("grow()", x.grow(), 8);
        CHECK.due("field 0", x.missing(1, 1), 5);
        CHECK.due("field 1", x.missing(2, 1), 0);
        CHECK.due("ends(-1)", x.ends(-1), 3);
        CHECK.due("depth()", x.depth(), 2);
        CHECK.due("run", x.run(Make.pair(x, numbers[6], numbers[0])), 1);
        CHECK.due("run", x.run(Make.pair(x, numbers[6], numbers[1])), -1);
    }
}
