import java.util.function.Consumer;

/** Promise 11: forget. */
public final class Promise11ForgetTest {
    private static final Check CHECK = new Check();

    private Promise11ForgetTest() {
    }

    public static void main(String[] args) {
        allFamiliesGo();
        allPatternsGo();
        allRulesGo();
        whatIsPushedGoes();
        theTreeGoes();
        howManyPatternsThereWere();
        theirSizesGo();
        asANewObject();
        asANewObjectForOtherCalls();
        CHECK.end();
    }

    private static void allFamiliesGo() {
        CHECK.sentence(11, "All families .. go");
        RuleTree x = new RuleTree();
        x.family(2, 3);
        x.family(64, -1);
        x.forget();
        CHECK.due("count(0)", x.count(0), 0);
        CHECK.due("built(0, 0, -1)", x.built(0, 0, -1), -1);
        CHECK.due("family(3, 0), from 0 on", x.family(3, 0), 0);
        CHECK.due("its tag 1 has no argument", x.built(0, 1, -1), 0);
        CHECK.due("its tag 2 is there", x.built(0, 2, -1), 1);
        CHECK.due("built(1, 0, 0)", x.built(1, 0, 0), -1);
    }

    private static void allPatternsGo() {
        CHECK.sentence(11, "All .. patterns .. go");
        RuleTree x = new RuleTree();
        int one = x.constant(0, 1);
        x.name(0, one);
        x.forget();
        CHECK.due("count(1)", x.count(1), 0);
        CHECK.due("rule(0)", x.rule(0), -1);
        CHECK.due("push(0, 0)", x.push(0, 0), -1);
        CHECK.due("name(0, 0)", x.name(0, 0), -1);
        CHECK.due("first(0)", x.first(0), -1);
        CHECK.due("fits(0)", x.fits(0), false);
        CHECK.due("any(), from 0 on", x.any(), 0);
        CHECK.due("it is no value", x.fits(0), false);
        CHECK.due("record(0)", x.record(0), 1);
        CHECK.due("it is one", x.fits(1), true);
    }

    private static void allRulesGo() {
        CHECK.sentence(11, "All .. rules go");
        RuleTree x = new RuleTree();
        x.rule(x.constant(0, 1));
        x.forget();
        CHECK.due("count(3)", x.count(3), 0);
        CHECK.due("clear()", x.clear(), 0);
        int value = x.record(0);
        CHECK.due("first", x.first(value), -1);
        CHECK.due("fits", x.fits(value), true);
        CHECK.due("rule of another sort, from 0 on", x.rule(value), 0);
    }

    private static void whatIsPushedGoes() {
        CHECK.sentence(11, "All .. go, what is pushed");
        RuleTree x = new RuleTree();
        int any = x.any();
        x.push(0, any);
        x.push(127, any);
        x.forget();
        CHECK.due("count(2)", x.count(2), 0);
        CHECK.due("record(0), with no field pushed", x.record(0), 0);
        CHECK.due("push(127, 0)", x.push(127, 0), 1);
        CHECK.due("push(0, 0)", x.push(0, 0), 2);
    }

    private static void theTreeGoes() {
        CHECK.sentence(11, "All .. go .. and the tree");
        RuleTree x = new RuleTree();
        x.rule(x.constant(0, 1));
        x.grow();
        x.forget();
        noTree(x);
        RuleTree y = new RuleTree();
        y.grow();
        CHECK.due("forget()", y.forget(), 0);
        noTree(y);
        CHECK.due("grow()", y.grow(), 1);
    }

    private static void noTree(RuleTree x) {
        CHECK.due("count(4)", x.count(4), 0);
        CHECK.due("depth()", x.depth(), -1);
        CHECK.due("ends(-1)", x.ends(-1), -1);
        CHECK.due("ends(0)", x.ends(0), -1);
        CHECK.due("missing(0, 0)", x.missing(0, 0), -1);
        int value = x.constant(0, 1);
        CHECK.due("run", x.run(value), -1);
        CHECK.due("looks", x.looks(value), -1);
    }

    private static void howManyPatternsThereWere() {
        CHECK.sentence(11, "how many patterns there were");
        RuleTree x = new RuleTree();
        CHECK.due("forget() of a new object", x.forget(), 0);
        x.family(1, 0);
        CHECK.due("forget() of a family", x.forget(), 0);
        x.any();
        x.any();
        x.constant(4, 0);
        x.rule(0);
        CHECK.due("forget() of two patterns", x.forget(), 2);
        CHECK.due("forget() once more", x.forget(), 0);
        for (int pattern = 0; pattern < 500; pattern++) {
            x.any();
        }
        CHECK.due("forget() of 500", x.forget(), 500);
    }

    private static void theirSizesGo() {
        CHECK.sentence(11, "All .. patterns and rules go .. and their sizes");
        RuleTree x = new RuleTree();
        Scenes.HEAVY.accept(x);
        int heaviest = Scenes.heaviest(x);
        x.forget();
        for (int pattern = 0; pattern <= heaviest; pattern++) {
            x.any();
        }
        CHECK.due("a name of what has the number of one of 10,000", x.name(0, heaviest), heaviest + 1);
        for (int rule = 0; rule < 3; rule++) {
            CHECK.due("a rule of it", x.rule(heaviest), rule);
        }
    }

    private static void asANewObject() {
        CHECK.sentence(11, "All families, patterns and rules go, what is pushed, and the tree .. and it is as new");
        for (Consumer<RuleTree> scene : Scenes.ALL) {
            RuleTree x = new RuleTree();
            scene.accept(x);
            int patterns = x.count(1);
            CHECK.due("forget()", x.forget(), patterns);
            Twins.alike(CHECK, "after forget()", x, new RuleTree());
        }
    }

    private static void asANewObjectForOtherCalls() {
        CHECK.sentence(11, "All .. go .. and other calls find it as new");
        for (Consumer<RuleTree> before : Scenes.ALL) {
            for (Consumer<RuleTree> after : Scenes.ALL) {
                RuleTree x = new RuleTree();
                RuleTree other = new RuleTree();
                before.accept(x);
                x.forget();
                after.accept(x);
                after.accept(other);
                Twins.alike(CHECK, "after forget() and other calls", x, other);
            }
        }
    }
}
