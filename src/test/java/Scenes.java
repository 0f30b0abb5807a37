import java.util.List;
import java.util.function.Consumer;

/** States of an object in which a call is tried; the numbers are those of the patterns in RICH. */
final class Scenes {
    static final int ANY = 0;
    static final int ONE = 1;
    static final int TWO = 2;
    static final int BYTE = 3;
    static final int LEAF = 4;
    static final int NODE = 5;
    static final int NAME = 6;
    static final int NAMED = 7;
    static final int ONE_LEAF = 8;
    static final int ONE_OPEN = 9;
    static final int EMPTY_RECORD = 10;
    static final int ONE_NODE = 11;
    static final int TWO_NODE = 12;
    static final int TWO_OPEN = 13;
    static final int RICH_PATTERNS = 14;

    /** A new object. */
    static final Consumer<RuleTree> NEW = x -> { };
    /** Families, patterns of all sorts, two fields pushed, two rules, and a tree with missing values. */
    static final Consumer<RuleTree> RICH = Scenes::makeRich;
    /** The same without rules and tree. */
    static final Consumer<RuleTree> RULELESS = Scenes::makeRuleless;
    /** The same as RICH with a rule more, so that there is no tree. */
    static final Consumer<RuleTree> UNGROWN = Scenes::makeUngrown;
    /** Rules of size 16,384 together, and a tree; what is pushed is of size 16,384 too. */
    static final Consumer<RuleTree> HEAVY = Scenes::makeHeavy;
    /** Rules whose tree is too large. */
    static final Consumer<RuleTree> OVERGROWN = Scenes::makeOvergrown;

    static final List<Consumer<RuleTree>> ALL = List.of(NEW, RULELESS, RICH, UNGROWN, HEAVY, OVERGROWN);

    private Scenes() {
    }

    /** HEAVY's pattern of size 10,000. */
    static int heaviest(RuleTree x) {
        return x.count(1) - 2;
    }

    private static void makeRuleless(RuleTree x) {
        x.family(3, 2);
        x.family(64, 1L << 63);
        x.any();
        x.constant(0, 1);
        x.constant(0, 2);
        x.constant(2, 255);
        x.built(0, 0, RuleTree.NONE);
        x.built(0, 1, ONE);
        x.name(0, RuleTree.NONE);
        x.name(7, ONE);
        Make.pair(x, ONE, LEAF);
        Make.pair(x, ONE, RuleTree.NONE);
        x.record(0);
        Make.pair(x, ONE, NODE);
        Make.pair(x, TWO, NODE);
        Make.pair(x, TWO, RuleTree.NONE);
        x.push(0, BYTE);
        x.push(5, NAMED);
    }

    private static void makeRich(RuleTree x) {
        makeRuleless(x);
        x.rule(ONE_NODE);
        x.rule(TWO_OPEN);
        x.grow();
    }

    private static void makeUngrown(RuleTree x) {
        makeRich(x);
        x.rule(TWO_NODE);
    }

    private static void makeHeavy(RuleTree x) {
        x.family(2, 2);
        int any = x.any();
        int one = x.constant(0, 1);
        int size9998 = Make.ofSize(x, 9998, any);
        int size6383 = Make.ofSize(x, 6383, any);
        int size10000 = Make.recordWith(x, one, size9998, RuleTree.NONE);
        int size6384 = Make.recordWith(x, RuleTree.NONE, RuleTree.NONE, size6383);
        x.rule(size10000);
        x.rule(size6384);
        x.grow();
        x.push(0, size10000);
        x.push(3, size6384);
    }

    private static void makeOvergrown(RuleTree x) {
        x.family(3, 2);
        int one = x.constant(0, 1);
        x.rule(Make.leaves(x, 2048, one));
        x.grow();
        x.push(2, one);
    }
}
