/** Promise 1: a new object. */
public final class Promise01NewObjectTest {
    private static final Check CHECK = new Check();

    private Promise01NewObjectTest() {
    }

    public static void main(String[] args) {
        noFamilies();
        noPatterns();
        noRules();
        noTree();
        nothingPushed();
        objectsStandApart();
        CHECK.end();
    }

    private static void noFamilies() {
        CHECK.sentence(1, "No families");
        RuleTree x = new RuleTree();
        CHECK.due("count(0)", x.count(0), 0);
        x.any();
        CHECK.due("built(0, 0, -1)", x.built(0, 0, -1), -1);
        CHECK.due("built(0, 0, 0)", x.built(0, 0, 0), -1);
        CHECK.due("family(1, 0)", x.family(1, 0), 0);
    }

    private static void noPatterns() {
        CHECK.sentence(1, "No .. patterns");
        RuleTree x = new RuleTree();
        CHECK.due("count(1)", x.count(1), 0);
        CHECK.due("name(0, 0)", x.name(0, 0), -1);
        CHECK.due("push(0, 0)", x.push(0, 0), -1);
        CHECK.due("rule(0)", x.rule(0), -1);
        CHECK.due("run(0)", x.run(0), -1);
        CHECK.due("looks(0)", x.looks(0), -1);
        CHECK.due("first(0)", x.first(0), -1);
        CHECK.due("fits(0)", x.fits(0), false);
        CHECK.due("forget()", x.forget(), 0);
        CHECK.due("any()", x.any(), 0);
    }

    private static void noRules() {
        CHECK.sentence(1, "No .. rules");
        RuleTree x = new RuleTree();
        CHECK.due("count(3)", x.count(3), 0);
        CHECK.due("clear()", x.clear(), 0);
        int value = x.record(0);
        CHECK.due("first", x.first(value), -1);
        CHECK.due("fits", x.fits(value), true);
        CHECK.due("rule", x.rule(value), 0);
    }

    private static void noTree() {
        CHECK.sentence(1, "no tree");
        RuleTree x = new RuleTree();
        int value = x.record(0);
        CHECK.due("count(4)", x.count(4), 0);
        CHECK.due("depth()", x.depth(), -1);
        CHECK.due("ends(-1)", x.ends(-1), -1);
        CHECK.due("ends(0)", x.ends(0), -1);
        CHECK.due("missing(0, 0)", x.missing(0, 0), -1);
        CHECK.due("missing(0, 1)", x.missing(0, 1), -1);
        CHECK.due("run", x.run(value), -1);
        CHECK.due("looks", x.looks(value), -1);
    }

    private static void nothingPushed() {
        CHECK.sentence(1, "No families, patterns, rules .. nor is anything pushed");
        RuleTree x = new RuleTree();
        CHECK.due("count(2)", x.count(2), 0);
        CHECK.due("record(0), with no field from 0 on pushed", x.record(0), 0);
        for (int field = 0; field < 128; field++) {
            CHECK.due("push(" + field + ", 0)", x.push(field, 0), field + 1);
        }
    }

    private static void objectsStandApart() {
        CHECK.sentence(1, "A new object .. beside another");
        RuleTree other = new RuleTree();
        Scenes.RICH.accept(other);
        RuleTree x = new RuleTree();
        for (int what = 0; what <= 4; what++) {
            CHECK.due("count(" + what + ")", x.count(what), 0);
        }
        x.forget();
        CHECK.due("the other's patterns", other.count(1), Scenes.RICH_PATTERNS);
        CHECK.due("the other's rules", other.count(3), 2);
        CHECK.due("the other's tree", other.run(Scenes.ONE_NODE), 0);
    }
}
