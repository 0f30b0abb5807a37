/** Promise 7: push. */
public final class Promise07PushTest {
    private static final Check CHECK = new Check();

    private Promise07PushTest() {
    }

    public static void main(String[] args) {
        howManyAre();
        inAnyOrder();
        noSuchPattern();
        noSuchNumber();
        pushedAlready();
        allArePushed();
        pushedAlreadyNoMore();
        CHECK.end();
    }

    private static void howManyAre() {
        CHECK.sentence(7, "A field is pushed: how many are");
        RuleTree x = new RuleTree();
        int any = x.any();
        int one = x.constant(0, 1);
        CHECK.due("push(127, any)", x.push(127, any), 1);
        CHECK.due("push(0, one)", x.push(0, one), 2);
        CHECK.due("push(64, any), a pattern once more", x.push(64, any), 3);
        CHECK.due("count(2)", x.count(2), 3);
        CHECK.due("no pattern is made: count(1)", x.count(1), 2);
    }

    private static void inAnyOrder() {
        CHECK.sentence(7, "A field is pushed .. in any order");
        RuleTree x = new RuleTree();
        int one = x.constant(0, 1);
        int two = x.constant(0, 2);
        x.push(1, two);
        x.push(0, one);
        int swapped = x.record(2);
        x.rule(Make.pair(x, one, two));
        CHECK.due("first of (1, 2) that was pushed from behind", x.first(swapped), 0);
    }

    private static void noSuchPattern() {
        CHECK.sentence(7, "NONE, refused, when there is no such pattern");
        int[] patterns = {-1, -2, -3, Integer.MIN_VALUE, 16384, 16385, Integer.MAX_VALUE};
        for (int pattern : patterns) {
            refused(1, pattern);
        }
        Twins.unchangedInAllScenes(CHECK, "push(1, the next)", x -> x.push(1, x.count(1)), -1);
        RuleTree x = new RuleTree();
        x.any();
        x.any();
        CHECK.due("the first pattern", x.push(0, 0), 1);
        CHECK.due("the last pattern", x.push(1, 1), 2);
    }

    private static void noSuchNumber() {
        CHECK.sentence(7, "NONE, refused, when .. the number is not 0 .. 127");
        int[] fields = {-1, -2, -128, Integer.MIN_VALUE, 128, 129, 255, 256, Integer.MAX_VALUE};
        for (int field : fields) {
            refused(field, 0);
        }
    }

    private static void pushedAlready() {
        CHECK.sentence(7, "NONE, refused, when .. the number .. is pushed already");
        Twins.unchanged(CHECK, Scenes.RICH, "push(0, the same)", x -> x.push(0, Scenes.BYTE), -1);
        Twins.unchanged(CHECK, Scenes.RICH, "push(0, another)", x -> x.push(0, Scenes.ONE), -1);
        Twins.unchanged(CHECK, Scenes.RICH, "push(5, another)", x -> x.push(5, Scenes.ANY), -1);
        Twins.unchanged(CHECK, Scenes.UNGROWN, "push(5, another)", x -> x.push(5, Scenes.ANY), -1);
        Twins.unchanged(CHECK, Scenes.HEAVY, "push(3, another)", x -> x.push(3, 0), -1);
        Twins.unchanged(CHECK, Scenes.OVERGROWN, "push(2, another)", x -> x.push(2, 1), -1);
        RuleTree x = new RuleTree();
        int one = x.constant(0, 1);
        int two = x.constant(0, 2);
        x.push(0, one);
        x.push(0, two);
        x.rule(x.record(1));
        CHECK.due("the first one stays", x.first(Make.recordWith(x, one)), 0);
        CHECK.due("the second one does not", x.first(Make.recordWith(x, two)), -1);
    }

    private static void allArePushed() {
        CHECK.sentence(7, "A field is pushed .. all 128");
        RuleTree x = new RuleTree();
        int any = x.any();
        for (int field = 127; field >= 0; field--) {
            CHECK.due("push(" + field + ", any)", x.push(field, any), 128 - field);
        }
        for (int field = -1; field <= 128; field++) {
            CHECK.due("push(" + field + ", any) once more", x.push(field, any), -1);
        }
        CHECK.due("count(2)", x.count(2), 128);
        CHECK.due("record(128)", x.record(128), 1);
    }

    private static void pushedAlreadyNoMore() {
        CHECK.sentence(7, "is pushed already .. until record() or forget()");
        RuleTree x = new RuleTree();
        int any = x.any();
        x.push(0, any);
        x.push(127, any);
        x.clear();
        CHECK.due("after clear()", x.push(0, any), -1);
        x.rule(any);
        CHECK.due("after rule()", x.push(0, any), -1);
        x.grow();
        CHECK.due("after grow()", x.push(127, any), -1);
        x.record(127);
        CHECK.due("after a refused record()", x.push(127, any), -1);
        x.record(128);
        CHECK.due("after record()", x.push(127, any), 1);
        x.forget();
        x.any();
        CHECK.due("after forget()", x.push(127, any), 1);
    }

    private static void refused(int field, int pattern) {
        Twins.unchangedInAllScenes(CHECK, "push(" + field + ", " + pattern + ")", x -> x.push(field, pattern), -1);
    }
}
