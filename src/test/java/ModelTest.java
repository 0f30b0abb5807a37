/** Many runs of calls, the same each time, on the class and on the model; each answer must be the same. */
public final class ModelTest extends TypedRun {
    private static final int RUNS = 3000;
    private static final int CALLS = 512;
    private static final int[] ODD = {
        Integer.MIN_VALUE, Integer.MIN_VALUE + 1, -3, -2, -1, 0, 1, 2, 3, 4, 5, 63, 64, 65, 127, 128, 129,
        255, 256, 1024, 16384, Integer.MAX_VALUE - 1, Integer.MAX_VALUE};

    private final Check check;
    private final RuleTree x = new RuleTree();
    private final Model model = new Model();
    private int calls = 0;

    private ModelTest(Check check, long seed) {
        super(seed, true);
        this.check = check;
    }

    public static void main(String[] args) {
        Check check = new Check();
        for (int run = 0; run < RUNS && check.wrong() < 20; run++) {
            check.about("run " + run);
            ModelTest test = new ModelTest(check, run);
            if (run % 4 == 0) {
                test.runOddly();
            } else {
                test.runByTypes();
            }
        }
        check.end();
    }

    private int due(String call, int got, int want) {
        calls++;
        // What later calls answer is free.
        if (calls <= CALLS) {
            check.due("call " + calls + ", " + call, got, want);
        }
        return want;
    }

    private int odd() {
        return below(3) == 0 ? ODD[below(ODD.length)] : below(6) - 1;
    }

    private int someNumber() {
        int made = model.count(1);
        return below(8) == 0 || made == 0 ? odd() : made - 1 - below(Math.min(made, 12));
    }

    @Override
    boolean isShort() {
        return calls > CALLS - 20;
    }

    private void runOddly() {
        while (calls < CALLS) {
            callOddly(below(19));
        }
    }

    private void callOddly(int which) {
        switch (which) {
            case 0:
                family(odd(), below(2) == 0 ? someLong() >>> below(64) : below(4));
                break;
            case 1:
                any();
                break;
            case 2:
                constant(below(6) - 1, odd());
                break;
            case 3:
                built(odd(), odd(), below(2) == 0 ? -1 : someNumber());
                break;
            case 4:
                name(odd(), below(2) == 0 ? -1 : someNumber());
                break;
            case 5:
            case 6:
                push(odd(), someNumber());
                break;
            case 7:
                record(odd());
                break;
            case 8:
            case 9:
            case 10:
                rule(someNumber());
                break;
            case 11:
                dropSomething();
                break;
            case 12:
                grow();
                break;
            default:
                askOf(someNumber());
                break;
        }
    }

    private void dropSomething() {
        int which = below(12);
        if (which == 0) {
            forget();
        } else if (which < 4) {
            clear();
        }
    }

    private void askOf(int value) {
        switch (below(9)) {
            case 0:
                due("ends", x.ends(value), model.ends(value));
                break;
            case 1:
                int rule = odd();
                due("ends(" + rule + ")", x.ends(rule), model.ends(rule));
                break;
            case 2:
                due("depth()", x.depth(), model.depth());
                break;
            case 3:
                int what = below(8) == 0 ? odd() : below(5);
                due("count(" + what + ")", x.count(what), model.count(what));
                break;
            case 4:
            case 5:
                missing(somePath(), below(8) == 0 ? odd() : below(2));
                break;
            default:
                askAll(value);
                break;
        }
    }

    private void askAll(int value) {
        due("run(" + value + ")", x.run(value), model.run(value));
        due("looks(" + value + ")", x.looks(value), model.looks(value));
        due("first(" + value + ")", x.first(value), model.first(value));
        due("fits(" + value + ")", x.fits(value) ? 1 : 0, model.fits(value) ? 1 : 0);
    }

    private long somePath() {
        if (below(20) == 0) {
            return someLong();
        }
        long path = 0;
        for (int step = below(5); step > 0; step--) {
            path = path << 8 | below(4);
        }
        return path;
    }

    private void runByTypes() {
        makeTypes();
        while (calls < CALLS - 40) {
            for (int many = 1 + below(7); many > 0; many--) {
                rule(patternOf(0, LEVELS, true));
            }
            grow();
            askOfTree();
            dropSomething();
            if (model.count(0) == 0) {
                makeTypes();
            }
        }
    }

    private void askOfTree() {
        int many = model.count(3);
        for (int rule = -1; rule <= many; rule++) {
            due("ends(" + rule + ")", x.ends(rule), model.ends(rule));
        }
        due("depth()", x.depth(), model.depth());
        due("count(4)", x.count(4), model.count(4));
        for (int i = 0; i < 12; i++) {
            long path = somePath();
            missing(path, 0);
            missing(path, 1);
        }
        for (int i = 0; i < 5; i++) {
            askAll(patternOf(0, LEVELS + 2, false));
        }
    }

    @Override
    int family(int n, long arguments) {
        return due("family(" + n + ", " + arguments + ")", x.family(n, arguments), model.family(n, arguments));
    }

    @Override
    int any() {
        return due("any()", x.any(), model.any());
    }

    @Override
    int constant(int kind, int value) {
        return due("constant(" + kind + ", " + value + ")", x.constant(kind, value), model.constant(kind, value));
    }

    @Override
    int built(int family, int tag, int of) {
        return due("built(" + family + ", " + tag + ", " + of + ")", x.built(family, tag, of),
            model.built(family, tag, of));
    }

    @Override
    int name(int e, int of) {
        return due("name(" + e + ", " + of + ")", x.name(e, of), model.name(e, of));
    }

    @Override
    int push(int field, int pattern) {
        return due("push(" + field + ", " + pattern + ")", x.push(field, pattern), model.push(field, pattern));
    }

    @Override
    int record(int n) {
        return due("record(" + n + ")", x.record(n), model.record(n));
    }

    private int rule(int pattern) {
        return due("rule(" + pattern + ")", x.rule(pattern), model.rule(pattern));
    }

    private int clear() {
        return due("clear()", x.clear(), model.clear());
    }

    private int forget() {
        return due("forget()", x.forget(), model.forget());
    }

    private int grow() {
        return due("grow()", x.grow(), model.grow());
    }

    private int missing(long path, int what) {
        return due("missing(" + path + ", " + what + ")", x.missing(path, what), model.missing(path, what));
    }
}
