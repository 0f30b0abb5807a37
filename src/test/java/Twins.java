import java.util.ArrayList;
import java.util.List;
import java.util.function.Consumer;
import java.util.function.ToIntFunction;

/**
 * Of two objects that were made alike, one has a call more, which must change nothing: both are then asked
 * the same questions, all that the document's face can tell, and must answer the same.
 */
final class Twins {
    private static final long[] PATHS = {0, 1, 2, 3, 4, 6, 128, 0x0101, 0x0102, 0x0201, 0x0202};
    private static final int[] TAGS = {0, 1, 2, 3, 63, 64};
    private static final int SOME = 14;

    private Twins() {
    }

    static void unchanged(Check check, Consumer<RuleTree> scene, String call, ToIntFunction<RuleTree> more, int want) {
        RuleTree with = new RuleTree();
        RuleTree without = new RuleTree();
        scene.accept(with);
        scene.accept(without);
        check.due(call, more.applyAsInt(with), want);
        alike(check, "after " + call, with, without);
    }

    static void unchangedInAllScenes(Check check, String call, ToIntFunction<RuleTree> more, int want) {
        for (Consumer<RuleTree> scene : Scenes.ALL) {
            unchanged(check, scene, call, more, want);
        }
    }

    /** Both objects are asked all questions, and changed by them. */
    static void alike(Check check, String when, RuleTree one, RuleTree other) {
        check.same(when, answers(one), answers(other));
    }

    /** Some two hundred calls; those that change something come last. */
    private static List<String> answers(RuleTree x) {
        List<String> told = new ArrayList<>();
        int patterns = x.count(1);
        askOfState(x, told);
        for (int pattern = 0; pattern < patterns; pattern++) {
            if (pattern < SOME || pattern >= patterns - SOME) {
                askOfPattern(x, told, pattern);
            }
        }
        askOfRules(x, told, patterns);
        askOfPushed(x, told);
        askOfFamilies(x, told);
        askOfSizes(x, told, patterns);
        tell(told, "family(1, 0)", x.family(1, 0));
        tell(told, "any()", x.any());
        tell(told, "forget()", x.forget());
        return told;
    }

    private static void tell(List<String> told, String call, int answer) {
        told.add(call + " answered " + answer);
    }

    private static void askOfState(RuleTree x, List<String> told) {
        for (int what = 0; what <= 4; what++) {
            tell(told, "count(" + what + ")", x.count(what));
        }
        tell(told, "depth()", x.depth());
        for (int rule = -1; rule <= 3; rule++) {
            tell(told, "ends(" + rule + ")", x.ends(rule));
        }
        for (long path : PATHS) {
            tell(told, "missing(" + path + ", 0)", x.missing(path, 0));
            tell(told, "missing(" + path + ", 1)", x.missing(path, 1));
        }
    }

    private static void askOfPattern(RuleTree x, List<String> told, int pattern) {
        tell(told, "run(" + pattern + ")", x.run(pattern));
        tell(told, "looks(" + pattern + ")", x.looks(pattern));
        tell(told, "first(" + pattern + ")", x.first(pattern));
        tell(told, "fits(" + pattern + ")", x.fits(pattern) ? 1 : 0);
    }

    /** A rule more tells whether the rules are of another size, and the tree what they are. */
    private static void askOfRules(RuleTree x, List<String> told, int patterns) {
        tell(told, "rule(0)", x.rule(0));
        tell(told, "rule(of the last)", x.rule(patterns - 1));
        tell(told, "grow()", x.grow());
        tell(told, "clear()", x.clear());
    }

    /** What is pushed is told by the tree of its record. */
    private static void askOfPushed(RuleTree x, List<String> told) {
        int record = x.record(128);
        tell(told, "record(128)", record);
        tell(told, "count(2)", x.count(2));
        tell(told, "rule(" + record + ")", x.rule(record));
        tell(told, "grow()", x.grow());
        for (long path : PATHS) {
            tell(told, "of the record, missing(" + path + ", 0)", x.missing(path, 0));
            tell(told, "of the record, missing(" + path + ", 1)", x.missing(path, 1));
        }
    }

    private static void askOfFamilies(RuleTree x, List<String> told) {
        for (int family = 0; family < 3; family++) {
            for (int tag : TAGS) {
                tell(told, "built(" + family + ", " + tag + ", -1)", x.built(family, tag, -1));
                tell(told, "built(" + family + ", " + tag + ", 0)", x.built(family, tag, 0));
            }
        }
    }

    private static void askOfSizes(RuleTree x, List<String> told, int patterns) {
        for (int pattern = Math.max(patterns - 4, 0); pattern < patterns; pattern++) {
            tell(told, "name(0, " + pattern + ")", x.name(0, pattern));
        }
    }
}
