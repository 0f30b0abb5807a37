/** Promise 3: any. */
public final class Promise03AnyTest {
    private static final Check CHECK = new Check();

    private Promise03AnyTest() {
    }

    public static void main(String[] args) {
        numbers();
        isAny();
        isNoValue();
        changesNothingElse();
        asManyAsCallsCanMake();
        CHECK.end();
    }

    private static void numbers() {
        CHECK.sentence(3, "the pattern's number");
        RuleTree x = new RuleTree();
        CHECK.due("any()", x.any(), 0);
        CHECK.due("any()", x.any(), 1);
        x.constant(0, 0);
        CHECK.due("any() after a constant", x.any(), 3);
        CHECK.due("count(1)", x.count(1), 4);
    }

    private static void isAny() {
        CHECK.sentence(3, "ANY");
        RuleTree x = new RuleTree();
        x.family(1, 0);
        x.rule(x.any());
        x.grow();
        int[] values = {
            x.constant(0, Integer.MIN_VALUE), x.constant(1, 0), x.constant(2, 255), x.constant(3, Integer.MAX_VALUE),
            x.built(0, 0, -1), x.name(0, -1), x.record(0)};
        for (int value : values) {
            CHECK.due("first(" + value + ")", x.first(value), 0);
            CHECK.due("fits(" + value + ")", x.fits(value), true);
            CHECK.due("run(" + value + ")", x.run(value), 0);
            CHECK.due("looks(" + value + ")", x.looks(value), 0);
        }
    }

    private static void isNoValue() {
        CHECK.sentence(3, "ANY .. is no value");
        RuleTree x = new RuleTree();
        int any = x.any();
        x.rule(any);
        x.grow();
        CHECK.due("run", x.run(any), -1);
        CHECK.due("looks", x.looks(any), -1);
        CHECK.due("first", x.first(any), -1);
        CHECK.due("fits", x.fits(any), false);
    }

    private static void changesNothingElse() {
        CHECK.sentence(3, "ANY .. beside a tree and what is pushed");
        RuleTree x = new RuleTree();
        Scenes.RICH.accept(x);
        int nodes = x.count(4);
        CHECK.due("any()", x.any(), Scenes.RICH_PATTERNS);
        CHECK.due("count(0)", x.count(0), 2);
        CHECK.due("count(2)", x.count(2), 2);
        CHECK.due("count(3)", x.count(3), 2);
        CHECK.due("count(4)", x.count(4), nodes);
        CHECK.due("run", x.run(Scenes.ONE_NODE), 0);
    }

    private static void asManyAsCallsCanMake() {
        CHECK.sentence(3, "FULL .. not before 16,384");
        RuleTree x = new RuleTree();
        for (int number = 0; number < 511; number++) {
            CHECK.due("any()", x.any(), number);
        }
        CHECK.due("count(1)", x.count(1), 511);
    }
}
