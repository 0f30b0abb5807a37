/** Promise 10: clear. */
public final class Promise10ClearTest {
    private static final Check CHECK = new Check();

    private Promise10ClearTest() {
    }

    public static void main(String[] args) {
        allRulesGo();
        theTreeGoes();
        theTreeOfNoRulesGoes();
        howManyThereWere();
        theirSizesGo();
        allElseStays();
        onANewObject();
        CHECK.end();
    }

    private static void allRulesGo() {
        CHECK.sentence(10, "All rules go");
        RuleTree x = new RuleTree();
        int one = x.constant(0, 1);
        x.rule(one);
        x.rule(one);
        x.clear();
        CHECK.due("count(3)", x.count(3), 0);
        CHECK.due("first", x.first(one), -1);
        CHECK.due("fits of another sort", x.fits(x.record(0)), true);
        CHECK.due("rule of another sort, from 0 on", x.rule(x.name(0, -1)), 0);
        CHECK.due("grow()", x.grow(), 3);
        CHECK.due("ends(0)", x.ends(0), 1);
        CHECK.due("ends(1)", x.ends(1), -1);
    }

    private static void theTreeGoes() {
        CHECK.sentence(10, "All rules go, and the tree");
        RuleTree x = new RuleTree();
        int one = x.constant(0, 1);
        x.rule(one);
        x.grow();
        x.clear();
        CHECK.due("count(4)", x.count(4), 0);
        CHECK.due("depth()", x.depth(), -1);
        CHECK.due("ends(0)", x.ends(0), -1);
        CHECK.due("ends(-1)", x.ends(-1), -1);
        CHECK.due("missing(0, 0)", x.missing(0, 0), -1);
        CHECK.due("run", x.run(one), -1);
        CHECK.due("looks", x.looks(one), -1);
        CHECK.due("grow() of no rules", x.grow(), 1);
    }

    private static void theTreeOfNoRulesGoes() {
        CHECK.sentence(10, "and the tree .. of no rules");
        RuleTree x = new RuleTree();
        CHECK.due("grow()", x.grow(), 1);
        CHECK.due("clear()", x.clear(), 0);
        CHECK.due("count(4)", x.count(4), 0);
        CHECK.due("depth()", x.depth(), -1);
        CHECK.due("missing(0, 0)", x.missing(0, 0), -1);
    }

    private static void howManyThereWere() {
        CHECK.sentence(10, "how many there were");
        RuleTree x = new RuleTree();
        CHECK.due("clear() of a new object", x.clear(), 0);
        int any = x.any();
        CHECK.due("clear() without rules", x.clear(), 0);
        x.rule(any);
        CHECK.due("clear() of one rule", x.clear(), 1);
        CHECK.due("clear() once more", x.clear(), 0);
        for (int rule = 0; rule < 400; rule++) {
            x.rule(any);
        }
        x.rule(any + 1);
        CHECK.due("clear() of 400, one was refused", x.clear(), 400);
    }

    private static void theirSizesGo() {
        CHECK.sentence(10, "All rules go .. and what is FULL is so no more");
        RuleTree x = new RuleTree();
        Scenes.HEAVY.accept(x);
        CHECK.due("rule(ANY)", x.rule(0), -2);
        CHECK.due("clear()", x.clear(), 2);
        CHECK.due("rule of 10,000", x.rule(Scenes.heaviest(x)), 0);
        CHECK.due("rule of 6,384", x.rule(Scenes.heaviest(x) + 1), 1);
        CHECK.due("rule(ANY)", x.rule(0), -2);
        RuleTree y = new RuleTree();
        Scenes.OVERGROWN.accept(y);
        CHECK.due("grow()", y.grow(), -2);
        y.clear();
        CHECK.due("grow() after clear()", y.grow(), 1);
    }

    private static void allElseStays() {
        CHECK.sentence(10, "All rules go, and the tree .. and no more");
        RuleTree x = new RuleTree();
        Scenes.RICH.accept(x);
        CHECK.due("clear()", x.clear(), 2);
        RuleTree other = new RuleTree();
        Scenes.RULELESS.accept(other);
        Twins.alike(CHECK, "after clear()", x, other);
        RuleTree y = new RuleTree();
        Scenes.UNGROWN.accept(y);
        CHECK.due("clear()", y.clear(), 3);
        RuleTree another = new RuleTree();
        Scenes.RULELESS.accept(another);
        Twins.alike(CHECK, "after clear() without a tree", y, another);
    }

    private static void onANewObject() {
        CHECK.sentence(10, "All rules go .. where there are none");
        Twins.unchanged(CHECK, Scenes.NEW, "clear()", x -> x.clear(), 0);
        Twins.unchanged(CHECK, Scenes.RULELESS, "clear()", x -> x.clear(), 0);
    }
}
