/** The limits of the document that its 512 calls can reach, from both sides, and what lies beyond those calls. */
public final class LimitsTest {
    private static final Check CHECK = new Check();

    private LimitsTest() {
    }

    public static void main(String[] args) {
        sizes();
        sizesOfAny();
        rulesTogether();
        mostNodes();
        tooManyNodes();
        allBytes();
        allTags();
        deep();
        sharedParts();
        manyCalls();
        CHECK.end();
    }

    private static void sizes() {
        CHECK.about("sizes");
        RuleTree x = new RuleTree();
        int leaf = x.constant(0, 5);
        int size99 = Make.recordOf(x, 98, 98, leaf);
        int size10000 = Make.recordOf(x, 101, 101, size99);
        CHECK.due("a pattern of size 10,000", size10000, 2);
        x.family(2, 2);
        CHECK.due("name of it", x.name(0, size10000), -2);
        CHECK.due("built of it", x.built(0, 1, size10000), -2);
        CHECK.due("built, refused before", x.built(0, 0, size10000), -1);
        x.push(7, size10000);
        CHECK.due("record of it", x.record(8), -2);
        CHECK.due("what is pushed stays", x.count(2), 1);
        CHECK.due("record(7), refused before", x.record(7), -1);
        CHECK.due("no pattern was made", x.count(1), 3);
        CHECK.due("any() goes on", x.any(), 3);
        CHECK.due("forget()", x.forget(), 4);
        x.any();
        x.any();
        x.any();
        CHECK.due("sizes are forgotten too", x.name(0, 2), 3);
        x.forget();
        int bare = x.record(128);
        int bare99 = Make.recordOf(x, 128, 98, bare);
        CHECK.due("fields without a pattern weigh nothing", Make.recordOf(x, 128, 101, bare99), 2);
    }

    private static void sizesOfAny() {
        CHECK.about("sizes of ANY");
        RuleTree x = new RuleTree();
        int size99 = Make.recordOf(x, 98, 98, x.any());
        int size10000 = Make.recordOf(x, 101, 101, size99);
        CHECK.due("a pattern of size 10,000", size10000, 2);
        CHECK.due("name of it", x.name(0, size10000), -2);
        x.forget();
        int name = x.name(0, x.name(1, -1));
        CHECK.due("an argument weighs", Make.recordOf(x, 128, 77, Make.recordOf(x, 128, 65, name)), -2);
    }

    private static void rulesTogether() {
        CHECK.about("rules' sizes");
        RuleTree x = new RuleTree();
        int leaf = x.constant(0, 5);
        int size99 = Make.recordOf(x, 98, 98, leaf);
        int size47 = Make.recordOf(x, 98, 46, leaf);
        int size10000 = Make.recordOf(x, 101, 101, size99);
        x.push(100, size47);
        int size6384 = Make.recordOf(x, 101, 64, size99);
        x.push(99, leaf);
        int any = x.any();
        CHECK.due("rule of 10,000", x.rule(size10000), 0);
        CHECK.due("rule of 10,000 more", x.rule(size10000), -2);
        CHECK.due("rule of 6,384", x.rule(size6384), 1);
        CHECK.due("grow() is too much", x.grow(), -2);
        CHECK.due("rule of 1", x.rule(any), -2);
        CHECK.due("rule that does not go together", x.rule(leaf), -1);
        CHECK.due("count(3)", x.count(3), 2);
        CHECK.due("clear()", x.clear(), 2);
        CHECK.due("rule of 1 after clear()", x.rule(any), 0);
        CHECK.due("grow()", x.grow(), 1);
        CHECK.due("rule of 10,000", x.rule(size10000), 1);
    }

    private static void mostNodes() {
        CHECK.about("4,096 nodes");
        RuleTree x = new RuleTree();
        x.family(1, 1);
        int leaf = x.constant(0, 1);
        int all = Make.recordOf(x, 128, 128, leaf);
        int some = Make.recordOf(x, 128, 127, leaf);
        x.push(15, some);
        int pattern = x.built(0, 0, Make.recordOf(x, 16, 15, all));
        int value = x.built(0, 0, Make.recordOf(x, 16, 16, all));
        x.rule(pattern);
        CHECK.due("grow()", x.grow(), 4096);
        CHECK.due("count(4)", x.count(4), 4096);
        CHECK.due("depth()", x.depth(), 2048);
        CHECK.due("ends(0)", x.ends(0), 1);
        CHECK.due("ends(-1)", x.ends(-1), 2047);
        CHECK.due("run", x.run(value), 0);
        CHECK.due("looks", x.looks(value), 2048);
        CHECK.due("missing, the first constant", x.missing(0x010101L, 1), 1);
        CHECK.due("missing, the last constant", x.missing(0x7f1001L, 1), 0);
        CHECK.due("missing, the field without a pattern", x.missing(0x801001L, 0), 0);
        CHECK.due("missing, a field too many", x.missing(0x811001L, 0), -1);
    }

    private static void tooManyNodes() {
        CHECK.about("4,097 nodes");
        RuleTree x = new RuleTree();
        int pattern = Make.recordOf(x, 16, 16, Make.recordOf(x, 128, 128, x.constant(0, 1)));
        x.rule(x.any());
        x.grow();
        CHECK.due("a tree: count(4)", x.count(4), 1);
        x.clear();
        x.rule(pattern);
        CHECK.due("grow()", x.grow(), -2);
        CHECK.due("grow() again", x.grow(), -2);
        CHECK.due("count(4)", x.count(4), 0);
        CHECK.due("depth()", x.depth(), -1);
        CHECK.due("ends(0)", x.ends(0), -1);
        CHECK.due("ends(-1)", x.ends(-1), -1);
        CHECK.due("run", x.run(pattern), -1);
        CHECK.due("looks", x.looks(pattern), -1);
        CHECK.due("missing(0, 0)", x.missing(0, 0), -1);
        CHECK.due("first", x.first(pattern), 0);
        CHECK.due("fits", x.fits(pattern), true);
        x.clear();
        CHECK.due("grow() without rules", x.grow(), 1);
    }

    private static void allBytes() {
        CHECK.about("kind 2");
        RuleTree x = new RuleTree();
        for (int number = 255; number > 0; number--) {
            x.rule(x.constant(2, number));
        }
        CHECK.due("grow() of 255 numbers", x.grow(), 257);
        CHECK.due("missing(0, 1)", x.missing(0, 1), 0);
        CHECK.due("rule, the last number", x.rule(x.constant(2, 0)), 255);
        CHECK.due("grow() of 256 numbers", x.grow(), 257);
        CHECK.due("ends(-1)", x.ends(-1), 0);
        CHECK.due("missing(0, 0)", x.missing(0, 0), -1);
        CHECK.due("run", x.run(1), 1);
    }

    private static void allTags() {
        CHECK.about("64 tags");
        RuleTree x = new RuleTree();
        x.family(64, 1L << 63);
        for (int tag = 0; tag < 63; tag++) {
            x.rule(x.built(0, tag, -1));
        }
        CHECK.due("grow() of 63 tags", x.grow(), 65);
        CHECK.due("missing(0, 1)", x.missing(0, 1), 63);
        CHECK.due("missing(1, 0)", x.missing(1, 0), 0);
        CHECK.due("missing(0x101, 0)", x.missing(0x101, 0), -1);
        x.rule(x.built(0, 63, x.any()));
        CHECK.due("grow() of 64 tags", x.grow(), 65);
        CHECK.due("missing(0, 0)", x.missing(0, 0), -1);
    }

    private static void deep() {
        CHECK.about("a deep pattern");
        RuleTree x = new RuleTree();
        int pattern = x.constant(1, 9);
        for (int i = 0; i < 490; i++) {
            pattern = x.name(i, pattern);
        }
        CHECK.due("rule", x.rule(pattern), 0);
        CHECK.due("grow()", x.grow(), 2 * 491 + 1);
        CHECK.due("depth()", x.depth(), 491);
        CHECK.due("run", x.run(pattern), 0);
        CHECK.due("looks", x.looks(pattern), 491);
        CHECK.due("first", x.first(pattern), 0);
        CHECK.due("fits", x.fits(pattern), true);
        CHECK.due("run of its inside", x.run(pattern - 1), -1);
        CHECK.due("looks of its inside", x.looks(pattern - 1), 1);
        CHECK.due("run of the innermost", x.run(0), -3);
        CHECK.due("missing(0x0101010101010101, 1)", x.missing(0x0101010101010101L, 1), 481);
        CHECK.due("missing(0x0102010101010101, 1)", x.missing(0x0102010101010101L, 1), -1);
    }

    /** The same small pattern in many places is looked at in each of them. */
    private static void sharedParts() {
        CHECK.about("shared patterns");
        RuleTree x = new RuleTree();
        int pattern = x.constant(3, 4);
        for (int i = 0; i < 10; i++) {
            x.push(0, pattern);
            x.push(1, pattern);
            pattern = x.record(2);
        }
        CHECK.due("rule", x.rule(pattern), 0);
        CHECK.due("grow()", x.grow(), 2 * 1024 + 1);
        CHECK.due("run", x.run(pattern), 0);
        CHECK.due("looks", x.looks(pattern), 1024);
    }

    /** What later calls answer is free; that they answer, and throw nothing, is asked all the same. */
    private static void manyCalls() {
        CHECK.about("after 512 calls");
        RuleTree x = new RuleTree();
        for (int i = 0; i < 1100; i++) {
            x.family(64, -1L);
            x.constant(0, i);
        }
        for (int i = 0; i < 1100; i++) {
            x.rule(i);
        }
        CHECK.due("rules are bounded", x.count(3), 1024);
        CHECK.due("families are bounded", x.count(0), 1024);
        CHECK.due("grow()", x.grow(), 1026);
        for (int i = 0; i < 17000; i++) {
            for (int field = 0; field < 128; field++) {
                x.push(field, 0);
            }
            x.record(128);
        }
        CHECK.due("patterns are bounded", x.count(1), 16384);
        CHECK.due("any()", x.any(), -2);
        CHECK.due("constant()", x.constant(0, 0), -2);
        CHECK.due("name()", x.name(0, -1), -2);
        CHECK.due("built()", x.built(0, 0, 0), -2);
        CHECK.due("family()", x.family(1, 0), -2);
        CHECK.due("rule()", x.rule(0), -2);
        CHECK.due("forget()", x.forget(), 16384);
        CHECK.due("any() after forget()", x.any(), 0);
    }
}
