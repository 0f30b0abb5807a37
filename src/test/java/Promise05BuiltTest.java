/** Promise 5: built. */
public final class Promise05BuiltTest {
    private static final Check CHECK = new Check();

    private Promise05BuiltTest() {
    }

    public static void main(String[] args) {
        numbers();
        ofAConstructor();
        noSuchFamily();
        noSuchTag();
        noSuchPattern();
        anArgumentJustWhenItHasOne();
        lastSizeThatIsTaken();
        fullBeyondIt();
        refusedRatherThanFull();
        CHECK.end();
    }

    private static void numbers() {
        CHECK.sentence(5, "the pattern's number");
        RuleTree x = new RuleTree();
        x.family(2, 2);
        CHECK.due("built(0, 0, -1)", x.built(0, 0, -1), 0);
        CHECK.due("built(0, 1, 0)", x.built(0, 1, 0), 1);
        CHECK.due("built(0, 1, 1), of the last one", x.built(0, 1, 1), 2);
        CHECK.due("count(1)", x.count(1), 3);
    }

    private static void ofAConstructor() {
        CHECK.sentence(5, "What is built of a constructor");
        RuleTree x = new RuleTree();
        x.family(3, 2);
        x.family(3, 2);
        int leaf = x.built(0, 0, -1);
        int node = x.built(0, 1, leaf);
        int other = x.built(0, 2, -1);
        x.rule(node);
        x.rule(leaf);
        CHECK.due("its own", x.first(x.built(0, 1, leaf)), 0);
        CHECK.due("another argument", x.first(x.built(0, 1, other)), -1);
        CHECK.due("another tag", x.first(leaf), 1);
        CHECK.due("a third tag", x.first(other), -1);
        CHECK.due("another family", x.fits(x.built(1, 0, -1)), false);
        CHECK.due("of a value, a value", x.fits(node), true);
        CHECK.due("of ANY, none", x.fits(x.built(0, 1, x.any())), false);
    }

    private static void noSuchFamily() {
        CHECK.sentence(5, "NONE, refused, when there is no such family");
        RuleTree x = new RuleTree();
        Scenes.RICH.accept(x);
        CHECK.due("the first family", x.built(0, 0, -1), Scenes.RICH_PATTERNS);
        CHECK.due("the last family", x.built(1, 0, -1), Scenes.RICH_PATTERNS + 1);
        int[] families = {2, 3, 1023, 1024, 1025, -1, -2, Integer.MIN_VALUE, Integer.MAX_VALUE};
        for (int family : families) {
            refused(family, 0, -1);
            refused(family, 1, 0);
        }
        CHECK.due("a family that is gone", afterForget(), -1);
    }

    private static int afterForget() {
        RuleTree x = new RuleTree();
        x.family(1, 0);
        x.forget();
        return x.built(0, 0, -1);
    }

    private static void noSuchTag() {
        CHECK.sentence(5, "NONE, refused, when there is no such .. tag");
        RuleTree x = new RuleTree();
        Scenes.RICH.accept(x);
        CHECK.due("the last tag of three", x.built(0, 2, -1), Scenes.RICH_PATTERNS);
        CHECK.due("the last tag of 64", x.built(1, 63, Scenes.ANY), Scenes.RICH_PATTERNS + 1);
        int[] tags = {-1, -2, -64, Integer.MIN_VALUE, 3, 4, 64, 65, 66, 128, Integer.MAX_VALUE};
        for (int tag : tags) {
            refused(0, tag, -1);
            refused(0, tag, 0);
        }
        refused(1, 64, -1);
        refused(1, 64, 0);
        refused(1, 127, 0);
        refused(1, -1, 0);
    }

    private static void noSuchPattern() {
        CHECK.sentence(5, "NONE, refused, when there is no such .. pattern");
        int[] patterns = {-2, -3, -4, Integer.MIN_VALUE, 16384, 16385, Integer.MAX_VALUE};
        for (int of : patterns) {
            refused(0, 1, of);
            refused(1, 63, of);
        }
        Twins.unchangedInAllScenes(CHECK, "built(0, 1, the next)", x -> x.built(0, 1, x.count(1)), -1);
        RuleTree x = new RuleTree();
        Scenes.RICH.accept(x);
        CHECK.due("of the first pattern", x.built(0, 1, 0), Scenes.RICH_PATTERNS);
        CHECK.due("of the last pattern", x.built(0, 1, Scenes.RICH_PATTERNS), Scenes.RICH_PATTERNS + 1);
    }

    private static void anArgumentJustWhenItHasOne() {
        CHECK.sentence(5, "NONE, refused, when .. of is not NONE just when it has no argument");
        refused(0, 1, -1);
        refused(1, 63, -1);
        refused(0, 0, 0);
        refused(0, 2, 0);
        refused(1, 62, 0);
        refused(1, 0, 0);
        refused(0, 0, -2);
        refused(0, 0, 16384);
        refused(0, 0, Integer.MIN_VALUE);
        refused(0, 0, Integer.MAX_VALUE);
    }

    private static void lastSizeThatIsTaken() {
        CHECK.sentence(5, "FULL .. not at a size of 10,000");
        RuleTree x = new RuleTree();
        x.family(1, 1);
        int of = Make.ofSize(x, 9999, x.any());
        int made = x.built(0, 0, of);
        CHECK.due("built of 9,999", made, of + 1);
        CHECK.due("built of it", x.built(0, 0, made), -2);
        CHECK.due("count(1)", x.count(1), of + 2);
    }

    private static void fullBeyondIt() {
        CHECK.sentence(5, "FULL .. at a size of 10,001");
        Twins.unchanged(CHECK, Scenes.HEAVY, "built of 10,000", x -> x.built(0, 1, Scenes.heaviest(x)), -2);
    }

    private static void refusedRatherThanFull() {
        CHECK.sentence(5, "NONE, refused .. also when it would be FULL");
        Twins.unchanged(CHECK, Scenes.HEAVY, "no argument", x -> x.built(0, 0, Scenes.heaviest(x)), -1);
        Twins.unchanged(CHECK, Scenes.HEAVY, "no such tag", x -> x.built(0, 2, Scenes.heaviest(x)), -1);
        Twins.unchanged(CHECK, Scenes.HEAVY, "no such family", x -> x.built(1, 1, Scenes.heaviest(x)), -1);
    }

    private static void refused(int family, int tag, int of) {
        Twins.unchangedInAllScenes(CHECK, "built(" + family + ", " + tag + ", " + of + ")",
            x -> x.built(family, tag, of), -1);
    }
}
