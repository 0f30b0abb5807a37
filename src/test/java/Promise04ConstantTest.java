/** Promise 4: constant. */
public final class Promise04ConstantTest {
    private static final int[] EDGES = {
        Integer.MIN_VALUE, Integer.MIN_VALUE + 1, -257, -256, -255, -2, -1, 0, 1, 127, 128, 254, 255, 256, 257,
        65535, 65536, Integer.MAX_VALUE - 1, Integer.MAX_VALUE};
    private static final Check CHECK = new Check();

    private Promise04ConstantTest() {
    }

    public static void main(String[] args) {
        numbers();
        constantsOfEachKind();
        numbersAreToldApart();
        noSuchKind();
        numbersOfKindTwo();
        noNumbersOfKindTwo();
        CHECK.end();
    }

    private static void numbers() {
        CHECK.sentence(4, "the pattern's number");
        RuleTree x = new RuleTree();
        for (int number = 0; number < 511; number++) {
            CHECK.due("constant(0, 7)", x.constant(0, 7), number);
        }
        CHECK.due("count(1)", x.count(1), 511);
    }

    private static void constantsOfEachKind() {
        CHECK.sentence(4, "A constant .. of kinds 0, 1 and 3, any int");
        for (int kind = 0; kind <= 3; kind++) {
            RuleTree x = new RuleTree();
            int made = 0;
            for (int value : EDGES) {
                if (kind != 2) {
                    CHECK.due("constant(" + kind + ", " + value + ")", x.constant(kind, value), made);
                    CHECK.due("it is a value", x.fits(made), true);
                    made++;
                }
            }
        }
    }

    private static void numbersAreToldApart() {
        CHECK.sentence(4, "A constant .. of its number");
        RuleTree x = new RuleTree();
        for (int value : EDGES) {
            x.rule(x.constant(1, value));
        }
        CHECK.due("grow() has a branch for each", x.grow(), EDGES.length + 2);
        for (int rule = 0; rule < EDGES.length; rule++) {
            int value = x.constant(1, EDGES[rule]);
            CHECK.due("first of " + EDGES[rule], x.first(value), rule);
            CHECK.due("run of " + EDGES[rule], x.run(value), rule);
        }
    }

    private static void noSuchKind() {
        CHECK.sentence(4, "NONE, refused, when kind is not 0 .. 3");
        RuleTree x = new RuleTree();
        CHECK.due("constant(0, 0)", x.constant(0, 0), 0);
        CHECK.due("constant(3, 0)", x.constant(3, 0), 1);
        int[] kinds = {-1, -2, Integer.MIN_VALUE, 4, 5, 256, Integer.MAX_VALUE};
        for (int kind : kinds) {
            refused(kind, 0);
            refused(kind, 255);
        }
    }

    private static void numbersOfKindTwo() {
        CHECK.sentence(4, "of kind 2 from 0 to 255");
        RuleTree x = new RuleTree();
        for (int value = 0; value <= 255; value++) {
            CHECK.due("constant(2, " + value + ")", x.constant(2, value), value);
        }
    }

    private static void noNumbersOfKindTwo() {
        CHECK.sentence(4, "NONE, refused, when .. value is none for kind 2");
        for (int value : EDGES) {
            if (value < 0 || value > 255) {
                refused(2, value);
            }
        }
    }

    private static void refused(int kind, int value) {
        Twins.unchangedInAllScenes(CHECK, "constant(" + kind + ", " + value + ")", x -> x.constant(kind, value), -1);
    }
}
