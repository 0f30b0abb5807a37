/** Promise 18: depth. */
public final class Promise18DepthTest {
    private static final Check CHECK = new Check();

    private Promise18DepthTest() {
    }

    public static void main(String[] args) {
        theMostParts();
        notOnTheFirstWay();
        noParts();
        manyParts();
        noneWhenThereIsNone();
        changesNothing();
        CHECK.end();
    }

    private static void theMostParts() {
        CHECK.sentence(18, "The most parts that are looked at on a way through the tree");
        RuleTree x = new RuleTree();
        x.family(1, 1);
        int one = x.constant(0, 1);
        depthOf(x, "a constant", one, 1);
        depthOf(x, "a name", x.name(0, -1), 1);
        depthOf(x, "a name of a constant", x.name(0, one), 2);
        depthOf(x, "built of a constant, where there is no other way", x.built(0, 0, one), 2);
        depthOf(x, "a record of two constants", Make.pair(x, one, one), 2);
        depthOf(x, "a record of one constant", Make.pair(x, -1, one), 1);
    }

    private static void depthOf(RuleTree x, String what, int pattern, int depth) {
        x.clear();
        x.rule(pattern);
        x.grow();
        CHECK.due("depth() of " + what, x.depth(), depth);
    }

    private static void notOnTheFirstWay() {
        CHECK.sentence(18, "The most parts .. on a way .. that is not the first");
        RuleTree x = new RuleTree();
        int one = x.constant(0, 1);
        int two = x.constant(0, 2);
        x.rule(Make.recordWith(x, one, -1, -1));
        x.rule(Make.recordWith(x, two, one, one));
        x.rule(Make.recordWith(x, -1, one, -1));
        x.grow();
        CHECK.due("depth(), the middle way", x.depth(), 3);
        x.clear();
        x.rule(Make.recordWith(x, one, -1, -1));
        x.rule(Make.recordWith(x, -1, one, one));
        x.grow();
        CHECK.due("depth(), the last way", x.depth(), 3);
    }

    private static void noParts() {
        CHECK.sentence(18, "The most parts .. none");
        RuleTree x = new RuleTree();
        x.grow();
        CHECK.due("depth() of no rules", x.depth(), 0);
        depthOf(x, "ANY", x.any(), 0);
        depthOf(x, "a record of no fields", x.record(0), 0);
        depthOf(x, "a record without patterns", x.record(128), 0);
        x.rule(Make.recordOf(x, 128, 128, x.constant(0, 1)));
        x.grow();
        CHECK.due("depth() of a rule that no value has", x.depth(), 0);
    }

    private static void manyParts() {
        CHECK.sentence(18, "The most parts .. 2,047 and more");
        RuleTree x = new RuleTree();
        x.family(1, 1);
        int one = x.constant(0, 1);
        int parts = Make.leaves(x, 2047, one);
        depthOf(x, "2,047 parts", parts, 2047);
        depthOf(x, "2,048 parts", x.built(0, 0, parts), 2048);
        int deep = x.built(0, 0, one);
        for (int level = 0; level < 300; level++) {
            deep = x.built(0, 0, deep);
        }
        depthOf(x, "302 parts, one in another", deep, 302);
        CHECK.due("count(4), with one end beside the rule's", x.count(4), 304);
    }

    private static void noneWhenThereIsNone() {
        CHECK.sentence(18, "NONE when there is none");
        RuleTree x = new RuleTree();
        CHECK.due("of a new object", x.depth(), -1);
        int one = x.constant(0, 1);
        x.rule(one);
        CHECK.due("before grow()", x.depth(), -1);
        x.grow();
        CHECK.due("after grow()", x.depth(), 1);
        x.rule(one);
        CHECK.due("after another rule", x.depth(), -1);
        x.grow();
        x.clear();
        CHECK.due("after clear()", x.depth(), -1);
        x.grow();
        x.forget();
        CHECK.due("after forget()", x.depth(), -1);
    }

    private static void changesNothing() {
        CHECK.sentence(18, "The most parts .. and nothing changes");
        Twins.unchanged(CHECK, Scenes.NEW, "depth()", x -> x.depth(), -1);
        Twins.unchanged(CHECK, Scenes.RICH, "depth()", x -> x.depth(), 3);
        Twins.unchanged(CHECK, Scenes.UNGROWN, "depth()", x -> x.depth(), -1);
        Twins.unchanged(CHECK, Scenes.OVERGROWN, "depth()", x -> x.depth(), -1);
    }
}
