/** Beyond 512 calls answers are free; that each call still answers, and throws nothing, is asked all the same. */
public final class LongRunsTest {
    private static final Check CHECK = new Check();

    private LongRunsTest() {
    }

    public static void main(String[] args) {
        allNumbersOfKindTwo();
        allThatIsBounded();
        CHECK.end();
    }

    /** The 256 constants and their rules are 512 calls already. */
    private static void allNumbersOfKindTwo() {
        CHECK.about("beyond 512 calls, all numbers of kind 2");
        RuleTree x = new RuleTree();
        for (int number = 255; number >= 0; number--) {
            x.rule(x.constant(2, number));
        }
        CHECK.due("grow(), without a branch for all others", x.grow(), 257);
        CHECK.due("ends(-1)", x.ends(-1), 0);
        CHECK.due("missing(0, 0)", x.missing(0, 0), -1);
        CHECK.due("run", x.run(1), 1);
    }

    private static void allThatIsBounded() {
        CHECK.about("beyond 512 calls, the bounds");
        RuleTree x = new RuleTree();
        for (int i = 0; i < 1100; i++) {
            x.family(64, -1L);
            x.constant(0, i);
        }
        for (int i = 0; i < 1100; i++) {
            x.rule(i);
        }
        CHECK.due("rules are bounded", x.count(3), 1024);
        CHECK.due("families are bounded", x.count(0), 1024);
        CHECK.due("grow()", x.grow(), 1026);
        for (int i = 0; i < 17000; i++) {
            for (int field = 0; field < 128; field++) {
                x.push(field, 0);
            }
            x.record(128);
        }
        CHECK.due("patterns are bounded", x.count(1), 16384);
        CHECK.due("any()", x.any(), -2);
        CHECK.due("constant()", x.constant(0, 0), -2);
        CHECK.due("name()", x.name(0, -1), -2);
        CHECK.due("built()", x.built(0, 0, 0), -2);
        CHECK.due("family()", x.family(1, 0), -2);
        CHECK.due("rule()", x.rule(0), -2);
        CHECK.due("forget()", x.forget(), 16384);
        CHECK.due("any() after forget()", x.any(), 0);
    }
}
