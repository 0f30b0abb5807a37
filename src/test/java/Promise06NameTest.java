/** Promise 6: name. */
public final class Promise06NameTest {
    private static final Check CHECK = new Check();

    private Promise06NameTest() {
    }

    public static void main(String[] args) {
        numbers();
        namesFromNoughtOn();
        withOrWithoutAnArgument();
        belowNought();
        noSuchPattern();
        lastSizeThatIsTaken();
        fullBeyondIt();
        refusedRatherThanFull();
        CHECK.end();
    }

    private static void numbers() {
        CHECK.sentence(6, "the pattern's number");
        RuleTree x = new RuleTree();
        CHECK.due("name(5, -1)", x.name(5, -1), 0);
        CHECK.due("name(5, 0)", x.name(5, 0), 1);
        CHECK.due("name(5, 1), of the last one", x.name(5, 1), 2);
        CHECK.due("count(1)", x.count(1), 3);
    }

    private static void namesFromNoughtOn() {
        CHECK.sentence(6, "A name .. a number from 0 on");
        int[] names = {0, 1, 63, 64, 127, 128, 255, 256, 1023, 1024, 65536, Integer.MAX_VALUE - 1, Integer.MAX_VALUE};
        RuleTree x = new RuleTree();
        for (int rule = 0; rule < names.length; rule++) {
            int pattern = x.name(names[rule], -1);
            CHECK.due("name(" + names[rule] + ", -1)", pattern, rule);
            CHECK.due("rule", x.rule(pattern), rule);
        }
        CHECK.due("grow() has a branch for each, and for all others", x.grow(), names.length + 2);
        for (int rule = 0; rule < names.length; rule++) {
            CHECK.due("run of " + names[rule], x.run(rule), rule);
            CHECK.due("first of " + names[rule], x.first(rule), rule);
        }
    }

    private static void withOrWithoutAnArgument() {
        CHECK.sentence(6, "with a pattern for its argument, or without (of is NONE)");
        RuleTree x = new RuleTree();
        int plain = x.name(0, RuleTree.NONE);
        int with = x.name(0, plain);
        int withAny = x.name(0, x.any());
        CHECK.due("without, a value", x.fits(plain), true);
        CHECK.due("with a value, a value", x.fits(with), true);
        CHECK.due("with ANY, none", x.fits(withAny), false);
        x.rule(withAny);
        CHECK.due("a name with an argument matches one", x.first(with), 0);
        CHECK.due("a name with an argument matches none without", x.first(plain), -1);
        x.clear();
        x.rule(plain);
        CHECK.due("a name without an argument matches one without", x.first(plain), 0);
        CHECK.due("a name without an argument matches none with one", x.first(with), -1);
    }

    private static void belowNought() {
        CHECK.sentence(6, "NONE, refused, when e is below 0");
        int[] names = {-1, -2, -128, -256, Integer.MIN_VALUE, Integer.MIN_VALUE + 1};
        for (int e : names) {
            refused(e, -1);
            refused(e, 0);
        }
    }

    private static void noSuchPattern() {
        CHECK.sentence(6, "NONE, refused, when .. there is no such pattern");
        int[] patterns = {-2, -3, -4, Integer.MIN_VALUE, 16384, 16385, Integer.MAX_VALUE};
        for (int of : patterns) {
            refused(0, of);
        }
        Twins.unchangedInAllScenes(CHECK, "name(0, the next)", x -> x.name(0, x.count(1)), -1);
        RuleTree x = new RuleTree();
        Scenes.RICH.accept(x);
        CHECK.due("of the first pattern", x.name(0, 0), Scenes.RICH_PATTERNS);
        CHECK.due("of the last pattern", x.name(0, Scenes.RICH_PATTERNS), Scenes.RICH_PATTERNS + 1);
    }

    private static void lastSizeThatIsTaken() {
        CHECK.sentence(6, "FULL .. not at a size of 10,000");
        RuleTree x = new RuleTree();
        int of = Make.ofSize(x, 9999, x.any());
        int made = x.name(0, of);
        CHECK.due("name of 9,999", made, of + 1);
        CHECK.due("name of it", x.name(0, made), -2);
        CHECK.due("name without an argument", x.name(0, -1), of + 2);
        CHECK.due("count(1)", x.count(1), of + 3);
    }

    private static void fullBeyondIt() {
        CHECK.sentence(6, "FULL .. at a size of 10,001");
        Twins.unchanged(CHECK, Scenes.HEAVY, "name of 10,000", x -> x.name(0, Scenes.heaviest(x)), -2);
        Twins.unchanged(CHECK, Scenes.HEAVY, "name MAX of 10,000",
            x -> x.name(Integer.MAX_VALUE, Scenes.heaviest(x)), -2);
    }

    private static void refusedRatherThanFull() {
        CHECK.sentence(6, "NONE, refused .. also when it would be FULL");
        Twins.unchanged(CHECK, Scenes.HEAVY, "name(-1, of 10,000)", x -> x.name(-1, Scenes.heaviest(x)), -1);
    }

    private static void refused(int e, int of) {
        Twins.unchangedInAllScenes(CHECK, "name(" + e + ", " + of + ")", x -> x.name(e, of), -1);
    }
}
