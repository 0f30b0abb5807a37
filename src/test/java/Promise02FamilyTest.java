/** Promise 2: family. */
public final class Promise02FamilyTest {
    private static final Check CHECK = new Check();

    private Promise02FamilyTest() {
    }

    public static void main(String[] args) {
        numbers();
        constructors();
        bitsOfArguments();
        allBitsOrNone();
        tooFewOrTooManyConstructors();
        bitsFromNOn();
        refusedBeforeAnother();
        asManyAsCallsCanMake();
        CHECK.end();
    }

    private static void numbers() {
        CHECK.sentence(2, "the family's number");
        RuleTree x = new RuleTree();
        CHECK.due("family(1, 0)", x.family(1, 0), 0);
        CHECK.due("family(1, 0), the same once more", x.family(1, 0), 1);
        CHECK.due("family(64, -1)", x.family(64, -1), 2);
        CHECK.due("count(0)", x.count(0), 3);
        CHECK.due("families are no patterns: count(1)", x.count(1), 0);
    }

    private static void constructors() {
        CHECK.sentence(2, "A family of n constructors");
        for (int n = 1; n <= 64; n++) {
            RuleTree x = new RuleTree();
            CHECK.due("family(" + n + ", 0)", x.family(n, 0), 0);
            CHECK.due("of " + n + ", built(0, 0, -1)", x.built(0, 0, -1), 0);
            CHECK.due("of " + n + ", the last tag", x.built(0, n - 1, -1), 1);
            CHECK.due("of " + n + ", a tag more", x.built(0, n, -1), -1);
            CHECK.due("of " + n + ", tag -1", x.built(0, -1, -1), -1);
            x.rule(0);
            CHECK.due("of " + n + ", grow() has a branch for all others if there are", x.grow(), n == 1 ? 2 : 3);
        }
    }

    private static void bitsOfArguments() {
        CHECK.sentence(2, "bit t of arguments tells whether the one with tag t has one");
        for (int bit = 0; bit < 64; bit++) {
            RuleTree x = new RuleTree();
            int any = x.any();
            CHECK.due("family(64, 1 << " + bit + ")", x.family(64, 1L << bit), 0);
            for (int tag = 0; tag < 64; tag++) {
                boolean has = tag == bit;
                CHECK.due("bit " + bit + ", built(0, " + tag + ", any)", x.built(0, tag, any) != -1, has);
                CHECK.due("bit " + bit + ", built(0, " + tag + ", -1)", x.built(0, tag, -1) != -1, !has);
            }
        }
    }

    private static void allBitsOrNone() {
        CHECK.sentence(2, "bit t of arguments .. all of them, or none");
        RuleTree x = new RuleTree();
        int any = x.any();
        CHECK.due("family(64, -1)", x.family(64, -1L), 0);
        CHECK.due("family(64, 0)", x.family(64, 0), 1);
        CHECK.due("family(64, MIN)", x.family(64, Long.MIN_VALUE), 2);
        CHECK.due("family(64, MAX)", x.family(64, Long.MAX_VALUE), 3);
        int[] tags = {0, 31, 32, 62, 63};
        for (int tag : tags) {
            CHECK.due("of all, tag " + tag, x.built(0, tag, any) >= 0, true);
            CHECK.due("of none, tag " + tag, x.built(1, tag, -1) >= 0, true);
            CHECK.due("of the last alone, tag " + tag, x.built(2, tag, any) >= 0, tag == 63);
            CHECK.due("of all but the last, tag " + tag, x.built(3, tag, any) >= 0, tag != 63);
        }
    }

    private static void tooFewOrTooManyConstructors() {
        CHECK.sentence(2, "NONE, refused, when n is not 1 .. 64");
        int[] numbers = {0, -1, -63, -64, Integer.MIN_VALUE, 65, 66, 127, 128, 129, 256, Integer.MAX_VALUE};
        for (int n : numbers) {
            refused(n, 0);
            refused(n, 1);
        }
        refused(0, -1);
        refused(65, -1);
    }

    private static void bitsFromNOn() {
        CHECK.sentence(2, "NONE, refused, when .. a bit from n on is set");
        for (int n = 1; n < 64; n++) {
            RuleTree x = new RuleTree();
            CHECK.due("of " + n + ", bit n", x.family(n, 1L << n), -1);
            CHECK.due("of " + n + ", bit 63", x.family(n, 1L << 63), -1);
            CHECK.due("of " + n + ", all bits from n on", x.family(n, -1L << n), -1);
            CHECK.due("of " + n + ", all bits", x.family(n, -1L), -1);
            CHECK.due("count(0)", x.count(0), 0);
            CHECK.due("of " + n + ", bit n - 1", x.family(n, 1L << n - 1), 0);
            CHECK.due("of " + n + ", all bits below n", x.family(n, (1L << n) - 1), 1);
        }
        refused(1, 2);
        refused(32, 1L << 32);
        refused(33, 1L << 33);
        refused(63, Long.MIN_VALUE);
        refused(63, -1);
    }

    private static void refusedBeforeAnother() {
        CHECK.sentence(2, "NONE, refused .. and the next one is taken");
        RuleTree x = new RuleTree();
        x.family(65, 0);
        CHECK.due("family(2, 2)", x.family(2, 2), 0);
        x.family(2, 4);
        CHECK.due("family(3, 4)", x.family(3, 4), 1);
        int any = x.any();
        CHECK.due("tag 1 of the first has an argument", x.built(0, 1, any), 1);
        CHECK.due("tag 1 of the second has none", x.built(1, 1, any), -1);
    }

    private static void asManyAsCallsCanMake() {
        CHECK.sentence(2, "FULL .. not before 1,024");
        RuleTree x = new RuleTree();
        for (int number = 0; number < 511; number++) {
            CHECK.due("family(64, -1)", x.family(64, -1), number);
        }
        CHECK.due("count(0)", x.count(0), 511);
    }

    private static void refused(int n, long arguments) {
        Twins.unchangedInAllScenes(CHECK, "family(" + n + ", " + arguments + ")", x -> x.family(n, arguments), -1);
    }
}
