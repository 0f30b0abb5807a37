/** Promises 1 to 8: the new object, families, patterns and what is pushed. */
public final class MakingTest {
    private static final Check CHECK = new Check();

    private MakingTest() {
    }

    public static void main(String[] args) {
        newObject();
        families();
        anys();
        constants();
        builts();
        names();
        pushes();
        records();
        CHECK.end();
    }

    private static void newObject() {
        CHECK.about("promise 1");
        RuleTree x = new RuleTree();
        for (int what = 0; what <= 4; what++) {
            CHECK.due("count(" + what + ")", x.count(what), 0);
        }
        CHECK.due("depth()", x.depth(), -1);
        CHECK.due("ends(-1)", x.ends(-1), -1);
        CHECK.due("run(0)", x.run(0), -1);
        CHECK.due("looks(0)", x.looks(0), -1);
        CHECK.due("first(0)", x.first(0), -1);
        CHECK.due("fits(0)", x.fits(0), false);
        CHECK.due("missing(0, 0)", x.missing(0, 0), -1);
        CHECK.due("clear()", x.clear(), 0);
        CHECK.due("forget()", x.forget(), 0);
    }

    private static void families() {
        CHECK.about("promise 2");
        RuleTree x = new RuleTree();
        CHECK.due("family(0, 0)", x.family(0, 0), -1);
        CHECK.due("family(-1, 0)", x.family(-1, 0), -1);
        CHECK.due("family(MIN, 0)", x.family(Integer.MIN_VALUE, 0), -1);
        CHECK.due("family(65, 0)", x.family(65, 0), -1);
        CHECK.due("family(1, 2)", x.family(1, 2), -1);
        CHECK.due("family(1, -1)", x.family(1, -1), -1);
        CHECK.due("family(63, 1 << 63)", x.family(63, 1L << 63), -1);
        CHECK.due("family(32, 1 << 32)", x.family(32, 1L << 32), -1);
        CHECK.due("count(0)", x.count(0), 0);
        CHECK.due("family(1, 1)", x.family(1, 1), 0);
        CHECK.due("family(1, 0)", x.family(1, 0), 1);
        CHECK.due("family(64, -1)", x.family(64, -1), 2);
        CHECK.due("family(63, MAX)", x.family(63, Long.MAX_VALUE), 3);
        CHECK.due("family(64, 1 << 63)", x.family(64, 1L << 63), 4);
        CHECK.due("count(0)", x.count(0), 5);
        int any = x.any();
        CHECK.due("built(4, 63, any)", x.built(4, 63, any), 1);
        CHECK.due("built(4, 62, any)", x.built(4, 62, any), -1);
        CHECK.due("built(4, 62, -1)", x.built(4, 62, -1), 2);
        CHECK.due("built(4, 31, -1)", x.built(4, 31, -1), 3);
    }

    private static void anys() {
        CHECK.about("promise 3");
        RuleTree x = new RuleTree();
        CHECK.due("any()", x.any(), 0);
        CHECK.due("any()", x.any(), 1);
        CHECK.due("count(1)", x.count(1), 2);
        CHECK.due("an ANY is no value: fits(0)", x.fits(0), false);
    }

    private static void constants() {
        CHECK.about("promise 4");
        RuleTree x = new RuleTree();
        CHECK.due("constant(-1, 0)", x.constant(-1, 0), -1);
        CHECK.due("constant(4, 0)", x.constant(4, 0), -1);
        CHECK.due("constant(2, -1)", x.constant(2, -1), -1);
        CHECK.due("constant(2, 256)", x.constant(2, 256), -1);
        CHECK.due("constant(2, 0)", x.constant(2, 0), 0);
        CHECK.due("constant(2, 255)", x.constant(2, 255), 1);
        CHECK.due("constant(0, MIN)", x.constant(0, Integer.MIN_VALUE), 2);
        CHECK.due("constant(1, MAX)", x.constant(1, Integer.MAX_VALUE), 3);
        CHECK.due("constant(3, -1)", x.constant(3, -1), 4);
        CHECK.due("fits(4)", x.fits(4), true);
        CHECK.due("count(1)", x.count(1), 5);
        CHECK.due("rule(2)", x.rule(2), 0);
        CHECK.due("another kind, rule(3)", x.rule(3), -1);
    }

    private static void builts() {
        CHECK.about("promise 5");
        RuleTree x = new RuleTree();
        x.family(3, 2);
        CHECK.due("built(0, 0, -1)", x.built(0, 0, -1), 0);
        CHECK.due("built(1, 0, -1)", x.built(1, 0, -1), -1);
        CHECK.due("built(-1, 0, -1)", x.built(-1, 0, -1), -1);
        CHECK.due("built(0, 3, -1)", x.built(0, 3, -1), -1);
        CHECK.due("built(0, -1, -1)", x.built(0, -1, -1), -1);
        CHECK.due("built(0, 0, 0)", x.built(0, 0, 0), -1);
        CHECK.due("built(0, 0, -2)", x.built(0, 0, -2), -1);
        CHECK.due("built(0, 1, -1)", x.built(0, 1, -1), -1);
        CHECK.due("built(0, 1, 1)", x.built(0, 1, 1), -1);
        CHECK.due("built(0, 1, MAX)", x.built(0, 1, Integer.MAX_VALUE), -1);
        CHECK.due("built(0, 1, 0)", x.built(0, 1, 0), 1);
        CHECK.due("built(0, 1, 1)", x.built(0, 1, 1), 2);
        CHECK.due("count(1)", x.count(1), 3);
        CHECK.due("a value: fits(2)", x.fits(2), true);
        CHECK.due("no value: fits(built of ANY)", x.fits(x.built(0, 1, x.any())), false);
    }

    private static void names() {
        CHECK.about("promise 6");
        RuleTree x = new RuleTree();
        CHECK.due("name(-1, -1)", x.name(-1, -1), -1);
        CHECK.due("name(MIN, -1)", x.name(Integer.MIN_VALUE, -1), -1);
        CHECK.due("name(0, 0)", x.name(0, 0), -1);
        CHECK.due("name(0, -2)", x.name(0, -2), -1);
        CHECK.due("name(0, -1)", x.name(0, -1), 0);
        CHECK.due("name(MAX, 0)", x.name(Integer.MAX_VALUE, 0), 1);
        CHECK.due("name(3, 2)", x.name(3, 2), -1);
        CHECK.due("count(1)", x.count(1), 2);
        CHECK.due("fits(1)", x.fits(1), true);
        CHECK.due("no value: fits(name of ANY)", x.fits(x.name(1, x.any())), false);
    }

    private static void pushes() {
        CHECK.about("promise 7");
        RuleTree x = new RuleTree();
        CHECK.due("push(0, 0)", x.push(0, 0), -1);
        int any = x.any();
        CHECK.due("push(0, -1)", x.push(0, -1), -1);
        CHECK.due("push(-1, any)", x.push(-1, any), -1);
        CHECK.due("push(128, any)", x.push(128, any), -1);
        CHECK.due("push(127, any)", x.push(127, any), 1);
        CHECK.due("push(0, any)", x.push(0, any), 2);
        CHECK.due("push(0, any) again", x.push(0, any), -1);
        CHECK.due("push(0, 1)", x.push(0, 1), -1);
        CHECK.due("count(2)", x.count(2), 2);
        x.clear();
        CHECK.due("clear() leaves them: count(2)", x.count(2), 2);
        x.forget();
        CHECK.due("forget() does not: count(2)", x.count(2), 0);
        x.any();
        CHECK.due("push(0, any) after forget()", x.push(0, any), 1);
    }

    private static void records() {
        CHECK.about("promise 8");
        RuleTree x = new RuleTree();
        CHECK.due("record(-1)", x.record(-1), -1);
        CHECK.due("record(129)", x.record(129), -1);
        CHECK.due("record(0)", x.record(0), 0);
        CHECK.due("a value: fits(0)", x.fits(0), true);
        CHECK.due("record(128)", x.record(128), 1);
        CHECK.due("no value: fits(1)", x.fits(1), false);
        x.push(2, 0);
        CHECK.due("record(2)", x.record(2), -1);
        CHECK.due("count(2)", x.count(2), 1);
        CHECK.due("record(3)", x.record(3), 2);
        CHECK.due("count(2)", x.count(2), 0);
        CHECK.due("fields without a pattern: fits(2)", x.fits(2), false);
        x.push(1, 0);
        x.push(0, 0);
        CHECK.due("record(2)", x.record(2), 3);
        CHECK.due("fits(3)", x.fits(3), true);
        x.push(0, 0);
        x.push(1, 1);
        CHECK.due("record(2) of what is no value", x.record(2), 4);
        CHECK.due("fits(4)", x.fits(4), false);
        CHECK.due("record(2) with none", x.record(2), 5);
        CHECK.due("count(1)", x.count(1), 6);
    }
}
