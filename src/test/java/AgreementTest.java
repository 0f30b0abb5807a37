/**
 * What follows from the document without saying how a tree is made: for values that fit, the tree tells what
 * first() tells; and the missing value is one, since as a rule more it goes together with all and has an end
 * (a name's argument "in some rule there", in promise 19, is read so that this holds).
 */
public final class AgreementTest extends TypedRun {
    private static final int RUNS = 3000;
    private static final int MOST_CALLS = 512;
    private static final int MOST_STEPS = 8;
    /** No pattern's number, and none of the class's answers: what the missing value has cannot be asked to the end. */
    private static final int TOO_MUCH = -9;
    private static final Check CHECK = new Check();

    private final RuleTree x = new RuleTree();
    private int calls = 0;

    private AgreementTest(long seed) {
        super(seed, false);
    }

    public static void main(String[] args) {
        int stuck = 0;
        int agreed = 0;
        int missed = 0;
        for (int run = 0; run < RUNS && CHECK.wrong() < 20; run++) {
            CHECK.about("run " + run);
            AgreementTest test = new AgreementTest(run);
            test.makeTypes();
            test.makeRules();
            agreed += test.agreeOnValues();
            stuck += test.agreeOnStuck();
            missed += test.addTheMissingValue();
        }
        CHECK.about("all runs");
        CHECK.due("enough values fitted", agreed > RUNS, true);
        CHECK.due("enough values did not", stuck > RUNS / 10, true);
        CHECK.due("enough values were missing", missed > RUNS / 4, true);
        CHECK.end();
    }

    private void makeRules() {
        int most = 1 + below(6);
        for (int rule = 0; rule < most && !isShort(); rule++) {
            int pattern = patternOf(0, LEVELS, true);
            calls++;
            CHECK.due("a rule of the type", x.rule(pattern), rule);
        }
        calls++;
        x.grow();
    }

    /** How many values fitted. */
    private int agreeOnValues() {
        int agreed = 0;
        for (int i = 0; i < 5 && x.count(4) > 0 && !isShort(); i++) {
            int value = patternOf(0, LEVELS + 2, false);
            calls += 8;
            if (x.fits(value)) {
                int rule = x.run(value);
                int looks = x.looks(value);
                agreed++;
                CHECK.due("run(" + value + "), as first()", rule, x.first(value));
                CHECK.due("looks(" + value + ") is told", looks >= 0, true);
                CHECK.due("looks(" + value + ") is at most depth()", looks <= x.depth(), true);
                CHECK.due("ends(" + rule + ") has one", x.ends(rule) > 0, true);
            }
        }
        return agreed;
    }

    /** How many values were stuck; one that fits never is. */
    private int agreeOnStuck() {
        int stuck = 0;
        for (int type = 0; type < types.length && x.count(4) > 0 && !isShort(); type++) {
            int value = patternOf(type, 2, false);
            calls += 4;
            if (x.run(value) == RuleTree.STUCK) {
                stuck++;
                CHECK.due("fits(" + value + "), which is stuck", x.fits(value), false);
                CHECK.due("looks(" + value + "), which is stuck", x.looks(value), -1);
            }
        }
        return stuck;
    }

    /** The missing value is made of what missing() tells of it and made a rule: 1, or 0 if that cannot be. */
    private int addTheMissingValue() {
        calls += 12;
        if (x.count(4) == 0 || x.missing(0, 0) == RuleTree.NONE) {
            return 0;
        }
        CHECK.due("an end has no rule", x.ends(RuleTree.NONE) > 0, true);
        int pattern = missingPart(0, 0, 0);
        if (pattern == TOO_MUCH) {
            return 0;
        }
        int rules = x.count(3);
        CHECK.due("the missing value goes together with all rules", x.rule(pattern), rules);
        if (x.grow() != RuleTree.FULL) {
            CHECK.due("it has an end", x.ends(rules) > 0, true);
        }
        return 1;
    }

    private int missingPart(int type, long path, int steps) {
        calls += 5;
        if (calls > MOST_CALLS) {
            return TOO_MUCH;
        }
        int shape = x.missing(path, 0);
        int mark = x.missing(path, 1);
        switch (shape) {
            case 0:
                return x.any();
            case 1:
                return x.constant(types[type], mark);
            case 4:
                return missingRecord(type, path, steps);
            default:
                int of = missingArgument(type, path, steps, mark);
                if (of == TOO_MUCH) {
                    return TOO_MUCH;
                }
                return shape == 2 ? x.built(numbers[type], mark, of) : x.name(mark, of);
        }
    }

    private int missingArgument(int type, long path, int steps, int mark) {
        if (steps == MOST_STEPS) {
            return TOO_MUCH;
        }
        long below = path | 1L << 8 * steps;
        if (x.missing(below, 0) == RuleTree.NONE) {
            return RuleTree.NONE;
        }
        CHECK.due("a name that no rule has, with an argument", mark < inner[type].length, true);
        return missingPart(inner[type][mark], below, steps + 1);
    }

    private int missingRecord(int type, long path, int steps) {
        int[] made = new int[inner[type].length];
        for (int field = 0; field < made.length; field++) {
            made[field] = steps == MOST_STEPS ? TOO_MUCH
                : missingPart(inner[type][field], path | field + 1L << 8 * steps, steps + 1);
            if (made[field] == TOO_MUCH) {
                return TOO_MUCH;
            }
        }
        return Make.recordWith(x, made);
    }

    @Override
    int family(int n, long arguments) {
        calls++;
        return x.family(n, arguments);
    }

    @Override
    int any() {
        calls++;
        return x.any();
    }

    @Override
    int constant(int kind, int value) {
        calls++;
        return x.constant(kind, value);
    }

    @Override
    int built(int family, int tag, int of) {
        calls++;
        return x.built(family, tag, of);
    }

    @Override
    int name(int e, int of) {
        calls++;
        return x.name(e, of);
    }

    @Override
    int push(int field, int pattern) {
        calls++;
        return x.push(field, pattern);
    }

    @Override
    int record(int n) {
        calls++;
        return x.record(n);
    }

    /** So that most missing values can still be made. */
    @Override
    boolean isShort() {
        return calls > MOST_CALLS / 2;
    }
}
