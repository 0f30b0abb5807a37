/** Promise 20: count. */
public final class Promise20CountTest {
    private static final Check CHECK = new Check();

    private Promise20CountTest() {
    }

    public static void main(String[] args) {
        families();
        patterns();
        pushed();
        rules();
        nodes();
        eachOfItsOwn();
        noneForAnother();
        changesNothing();
        CHECK.end();
    }

    private static void families() {
        CHECK.sentence(20, "How many families (what = 0)");
        RuleTree x = new RuleTree();
        CHECK.due("count(0)", x.count(0), 0);
        x.family(1, 0);
        CHECK.due("count(0)", x.count(0), 1);
        x.family(0, 0);
        CHECK.due("after a refused one", x.count(0), 1);
        x.clear();
        CHECK.due("after clear()", x.count(0), 1);
        x.forget();
        CHECK.due("after forget()", x.count(0), 0);
    }

    private static void patterns() {
        CHECK.sentence(20, "How many .. patterns (1)");
        RuleTree x = new RuleTree();
        x.family(2, 2);
        CHECK.due("count(1)", x.count(1), 0);
        x.any();
        CHECK.due("after any()", x.count(1), 1);
        x.constant(0, 0);
        CHECK.due("after constant()", x.count(1), 2);
        x.built(0, 0, -1);
        CHECK.due("after built()", x.count(1), 3);
        x.built(0, 1, 0);
        CHECK.due("after built() of a pattern", x.count(1), 4);
        x.name(0, -1);
        CHECK.due("after name()", x.count(1), 5);
        x.name(0, 0);
        CHECK.due("after name() of a pattern", x.count(1), 6);
        x.record(0);
        CHECK.due("after record()", x.count(1), 7);
        x.rule(0);
        x.grow();
        x.clear();
        CHECK.due("after rule(), grow(), clear()", x.count(1), 7);
        x.forget();
        CHECK.due("after forget()", x.count(1), 0);
    }

    private static void pushed() {
        CHECK.sentence(20, "How many .. pushed (2)");
        RuleTree x = new RuleTree();
        int any = x.any();
        CHECK.due("count(2)", x.count(2), 0);
        x.push(127, any);
        CHECK.due("after push()", x.count(2), 1);
        x.push(127, any);
        CHECK.due("after a refused one", x.count(2), 1);
        x.record(127);
        CHECK.due("after a refused record()", x.count(2), 1);
        x.record(128);
        CHECK.due("after record()", x.count(2), 0);
        x.push(0, any);
        x.clear();
        CHECK.due("after clear()", x.count(2), 1);
        x.forget();
        CHECK.due("after forget()", x.count(2), 0);
    }

    private static void rules() {
        CHECK.sentence(20, "How many .. rules (3) there are");
        RuleTree x = new RuleTree();
        int one = x.constant(0, 1);
        CHECK.due("count(3)", x.count(3), 0);
        x.rule(one);
        x.rule(one);
        CHECK.due("after two rules", x.count(3), 2);
        x.rule(x.record(0));
        CHECK.due("after a refused one", x.count(3), 2);
        x.grow();
        CHECK.due("after grow()", x.count(3), 2);
        x.clear();
        CHECK.due("after clear()", x.count(3), 0);
        x.rule(one);
        x.forget();
        CHECK.due("after forget()", x.count(3), 0);
    }

    private static void nodes() {
        CHECK.sentence(20, "nodes of the tree (4; 0 without one)");
        RuleTree x = new RuleTree();
        CHECK.due("of a new object", x.count(4), 0);
        x.grow();
        CHECK.due("of no rules", x.count(4), 1);
        x.rule(x.constant(0, 1));
        CHECK.due("after a rule", x.count(4), 0);
        x.grow();
        CHECK.due("after grow()", x.count(4), 3);
        x.clear();
        CHECK.due("after clear()", x.count(4), 0);
        x.grow();
        x.forget();
        CHECK.due("after forget()", x.count(4), 0);
        Scenes.OVERGROWN.accept(x);
        CHECK.due("when grow() was FULL", x.count(4), 0);
    }

    private static void eachOfItsOwn() {
        CHECK.sentence(20, "How many families (what = 0), patterns (1), pushed (2), rules (3) there are; nodes (4)");
        RuleTree x = new RuleTree();
        Scenes.RICH.accept(x);
        x.family(1, 0);
        x.push(1, 0);
        x.push(2, 0);
        x.push(3, 0);
        CHECK.due("count(0)", x.count(0), 3);
        CHECK.due("count(1)", x.count(1), 14);
        CHECK.due("count(2)", x.count(2), 5);
        CHECK.due("count(3)", x.count(3), 2);
        CHECK.due("count(4)", x.count(4), 8);
    }

    private static void noneForAnother() {
        CHECK.sentence(20, "NONE for another what");
        int[] others = {-1, -2, Integer.MIN_VALUE, 5, 6, 256, Integer.MAX_VALUE};
        for (int what : others) {
            Twins.unchangedInAllScenes(CHECK, "count(" + what + ")", x -> x.count(what), -1);
        }
    }

    private static void changesNothing() {
        CHECK.sentence(20, "How many .. there are .. and nothing changes");
        int[] due = {2, 14, 2, 2, 8};
        for (int what = 0; what <= 4; what++) {
            int asked = what;
            Twins.unchanged(CHECK, Scenes.RICH, "count(" + what + ")", x -> x.count(asked), due[what]);
        }
    }
}
