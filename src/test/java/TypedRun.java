import java.util.Random;

/** Makes patterns and values of types that it draws, so that most of them go together. */
abstract class TypedRun {
    static final int LEVELS = 5;

    /** The kinds of values of a run: 0 .. 3 a constant, 4 a family, 5 names, 6 a record. */
    int[] types;
    /** The families' numbers. */
    int[] numbers;
    /** The types of the arguments, by tags or names (-1 for none), and of the fields. */
    int[][] inner;
    private final Random random;
    private final boolean strays;

    /** With strays, now and then a pattern is of another type than it should be, or a field is left out. */
    TypedRun(long seed, boolean strays) {
        random = new Random(seed);
        this.strays = strays;
    }

    abstract int family(int n, long arguments);

    abstract int any();

    abstract int constant(int kind, int value);

    abstract int built(int family, int tag, int of);

    abstract int name(int e, int of);

    abstract int push(int field, int pattern);

    abstract int record(int n);

    /** Whether few calls are left, so that patterns must be small. */
    abstract boolean isShort();

    final int below(int bound) {
        return random.nextInt(bound);
    }

    final long someLong() {
        return random.nextLong();
    }

    final void makeTypes() {
        int many = 2 + below(5);
        types = new int[many];
        numbers = new int[many];
        inner = new int[many][];
        for (int type = 0; type < many; type++) {
            types[type] = type == 0 ? Math.min(4 + below(6), 6) : below(7);
            int fields = type == 0 ? 2 + below(5) : below(4);
            int arms = types[type] == 4 ? 1 + below(4) : types[type] == 5 ? 4 : fields;
            inner[type] = new int[arms];
            long mask = 0;
            for (int arm = 0; arm < arms; arm++) {
                boolean with = types[type] == 6 || below(2) == 0;
                inner[type][arm] = with ? below(many) : -1;
                mask |= with ? 1L << arm : 0;
            }
            if (types[type] == 4) {
                numbers[type] = family(arms, mask);
            }
        }
        family(1, 0);
    }

    /** Makes a pattern, or a value, of a type; what is too deep is cut off, and then no value of the type. */
    final int patternOf(int wanted, int levels, boolean withAny) {
        int type = strays && below(60) == 0 ? below(types.length) : wanted;
        // A rule that takes all leaves little to look at and nothing missing, so it is rare.
        if (withAny && below(levels == LEVELS ? 30 : 4) == 0) {
            return any();
        }
        if (levels <= 0 || isShort()) {
            return withAny ? any() : constant(0, 0);
        }
        if (types[type] < 4) {
            return constant(types[type], below(3) - (types[type] == 2 ? 0 : 1));
        }
        if (types[type] == 6) {
            return recordOf(type, levels, withAny);
        }
        int arm = below(inner[type].length);
        int of = inner[type][arm] < 0 ? -1 : patternOf(inner[type][arm], levels - 1, withAny);
        return types[type] == 4 ? built(numbers[type], arm, of) : name(arm, of);
    }

    private int recordOf(int type, int levels, boolean withAny) {
        int[] made = new int[inner[type].length];
        for (int field = 0; field < made.length; field++) {
            boolean left = withAny && below(4) == 0 || strays && below(100) == 0;
            made[field] = left ? -1 : patternOf(inner[type][field], levels - 1, withAny);
        }
        for (int field = made.length - 1; field >= 0; field--) {
            if (made[field] >= 0) {
                push(field, made[field]);
            }
        }
        return record(made.length);
    }
}
