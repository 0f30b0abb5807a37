/** Promise 8: record. */
public final class Promise08RecordTest {
    private static final Check CHECK = new Check();

    private Promise08RecordTest() {
    }

    public static void main(String[] args) {
        numbers();
        ofNFields();
        ofNoFields();
        withThoseThatArePushed();
        noneArePushedThen();
        noSuchN();
        aFieldFromNOnIsPushed();
        lastSizeThatIsTaken();
        fullBeyondIt();
        refusedRatherThanFull();
        CHECK.end();
    }

    private static void numbers() {
        CHECK.sentence(8, "the pattern's number");
        RuleTree x = new RuleTree();
        CHECK.due("record(0)", x.record(0), 0);
        x.push(0, 0);
        CHECK.due("record(1)", x.record(1), 1);
        CHECK.due("record(1) with none", x.record(1), 2);
        CHECK.due("count(1)", x.count(1), 3);
    }

    private static void ofNFields() {
        CHECK.sentence(8, "A record of n fields");
        RuleTree x = new RuleTree();
        for (int n = 0; n <= 128; n++) {
            CHECK.due("record(" + n + ")", x.record(n), n);
        }
        int[] some = {0, 1, 2, 63, 64, 126, 127};
        for (int n : some) {
            x.clear();
            CHECK.due("rule(" + n + ")", x.rule(n), 0);
            CHECK.due("of " + n + " fields, beside one of a field more", x.rule(n + 1), -1);
            CHECK.due("of " + n + " fields, beside one of 128", x.rule(128), -1);
        }
    }

    private static void ofNoFields() {
        CHECK.sentence(8, "A record of .. 0 .. fields");
        RuleTree x = new RuleTree();
        int empty = x.record(0);
        int open = x.record(1);
        CHECK.due("of none, a value", x.fits(empty), true);
        CHECK.due("of one without a pattern, no value", x.fits(open), false);
        x.rule(empty);
        CHECK.due("grow() looks at nothing", x.grow(), 1);
        CHECK.due("run", x.run(x.record(0)), 0);
        CHECK.due("first", x.first(x.record(0)), 0);
        CHECK.due("first of another", x.first(Make.recordWith(x, empty)), -1);
    }

    private static void withThoseThatArePushed() {
        CHECK.sentence(8, "with those that are pushed");
        RuleTree x = new RuleTree();
        int one = x.constant(0, 1);
        int two = x.constant(0, 2);
        x.push(127, two);
        x.push(0, one);
        x.rule(x.record(128));
        CHECK.due("grow() looks at two fields", x.grow(), 5);
        CHECK.due("missing, field 0", x.missing(1, 1), 1);
        CHECK.due("missing, field 127", x.missing(128, 0), 1);
        CHECK.due("missing, field 1 is ANY", x.missing(2, 0), 0);
        CHECK.due("missing, field 126 is ANY", x.missing(127, 0), 0);
        CHECK.due("missing, field 128 is not there", x.missing(129, 0), -1);
    }

    private static void noneArePushedThen() {
        CHECK.sentence(8, "none are pushed then");
        RuleTree x = new RuleTree();
        int one = x.constant(0, 1);
        x.push(0, one);
        CHECK.due("record(1)", x.record(1), 1);
        CHECK.due("count(2)", x.count(2), 0);
        CHECK.due("record(0), with no field pushed", x.record(0), 2);
        CHECK.due("record(1), with no field pushed", x.record(1), 3);
        CHECK.due("it is no value", x.fits(3), false);
        CHECK.due("push(0, one)", x.push(0, one), 1);
    }

    private static void noSuchN() {
        CHECK.sentence(8, "NONE, refused, when n is not 0 .. 128");
        int[] numbers = {-1, -2, -128, Integer.MIN_VALUE, 129, 130, 255, 256, Integer.MAX_VALUE};
        for (int n : numbers) {
            refused(n);
        }
    }

    private static void aFieldFromNOnIsPushed() {
        CHECK.sentence(8, "NONE, refused, when .. a field from n on is pushed");
        RuleTree x = new RuleTree();
        int any = x.any();
        for (int field = 0; field < 126; field++) {
            x.push(field, any);
            CHECK.due("field " + field + ", record(" + field + ")", x.record(field), -1);
            CHECK.due("field " + field + ", record(0)", x.record(0), -1);
            CHECK.due("field " + field + ", record(" + (field + 1) + ")", x.record(field + 1), field + 1);
        }
        RuleTree y = new RuleTree();
        y.any();
        y.push(127, any);
        CHECK.due("field 127, record(127)", y.record(127), -1);
        CHECK.due("it stays pushed", y.count(2), 1);
        CHECK.due("field 127, record(128)", y.record(128), 1);
        Twins.unchanged(CHECK, Scenes.RICH, "fields 0 and 5, record(0)", z -> z.record(0), -1);
        Twins.unchanged(CHECK, Scenes.RICH, "fields 0 and 5, record(5)", z -> z.record(5), -1);
        Twins.unchanged(CHECK, Scenes.UNGROWN, "fields 0 and 5, record(1)", z -> z.record(1), -1);
        Twins.unchanged(CHECK, Scenes.OVERGROWN, "field 2, record(2)", z -> z.record(2), -1);
    }

    private static void lastSizeThatIsTaken() {
        CHECK.sentence(8, "FULL .. not at a size of 10,000");
        RuleTree x = new RuleTree();
        int any = x.any();
        int size99 = Make.ofSize(x, 99, any);
        int size10000 = Make.recordOf(x, 101, 101, size99);
        CHECK.due("record of 101 patterns of size 99", size10000, size99 + 1);
        int size9999 = Make.ofSize(x, 9999, any);
        int made = x.count(1);
        CHECK.due("record of one of 9,999", Make.recordWith(x, size9999), made);
        CHECK.due("fields without a pattern add nothing", Make.recordAt(x, 128, 127, size9999), made + 1);
        x.push(0, size9999);
        x.push(1, any);
        CHECK.due("record of 9,999 and ANY", x.record(2), -2);
    }

    private static void fullBeyondIt() {
        CHECK.sentence(8, "FULL .. at a size of 10,001");
        Twins.unchanged(CHECK, Scenes.HEAVY, "record(4)", x -> x.record(4), -2);
        Twins.unchanged(CHECK, Scenes.HEAVY, "record(128)", x -> x.record(128), -2);
        RuleTree x = new RuleTree();
        int size10000 = Make.ofSize(x, 10000, x.any());
        x.push(1, size10000);
        CHECK.due("record of one of 10,000", x.record(2), -2);
        CHECK.due("it stays pushed", x.count(2), 1);
        CHECK.due("push(1, 0)", x.push(1, 0), -1);
        CHECK.due("count(1)", x.count(1), size10000 + 1);
        CHECK.due("any()", x.any(), size10000 + 1);
    }

    private static void refusedRatherThanFull() {
        CHECK.sentence(8, "NONE, refused .. also when it would be FULL");
        Twins.unchanged(CHECK, Scenes.HEAVY, "fields 0 and 3, record(3)", x -> x.record(3), -1);
        Twins.unchanged(CHECK, Scenes.HEAVY, "record(129)", x -> x.record(129), -1);
    }

    private static void refused(int n) {
        Twins.unchangedInAllScenes(CHECK, "record(" + n + ")", x -> x.record(n), -1);
    }
}
