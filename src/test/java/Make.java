/** Patterns and paths that several tests make. Nothing may be pushed when a pattern is made here. */
final class Make {
    private Make() {
    }

    /** The path of these steps, as missing() takes it: the first step is the lowest byte. */
    static long path(int... steps) {
        long path = 0;
        for (int i = steps.length - 1; i >= 0; i--) {
            path = path << 8 | steps[i];
        }
        return path;
    }

    /** A record of two fields, each with a pattern or (NONE) without. */
    static int pair(RuleTree x, int left, int right) {
        return recordWith(x, left, right);
    }

    /** A record with as many fields as there are numbers, each with a pattern or (NONE) without. */
    static int recordWith(RuleTree x, int... patterns) {
        for (int field = 0; field < patterns.length; field++) {
            if (patterns[field] != RuleTree.NONE) {
                x.push(field, patterns[field]);
            }
        }
        return x.record(patterns.length);
    }

    /** A record of n fields, the first ones of them with the same pattern. */
    static int recordOf(RuleTree x, int n, int given, int pattern) {
        for (int field = 0; field < given; field++) {
            x.push(field, pattern);
        }
        return x.record(n);
    }

    /** A record of n fields, just one of them with a pattern. */
    static int recordAt(RuleTree x, int n, int field, int pattern) {
        x.push(field, pattern);
        return x.record(n);
    }

    /** A pattern of a size, out of records around a leaf of size 1, in some fifty calls. */
    static int ofSize(RuleTree x, int size, int leaf) {
        if (size <= 1) {
            return leaf;
        }
        boolean twice = size % 2 == 1;
        int inner = ofSize(x, twice ? size / 2 : size - 1, leaf);
        return twice ? recordWith(x, inner, inner) : recordWith(x, inner);
    }

    /** A pattern in which a leaf stands so many times, out of records around it. */
    static int leaves(RuleTree x, int many, int leaf) {
        if (many <= 1) {
            return leaf;
        }
        boolean even = many % 2 == 0;
        int inner = leaves(x, even ? many / 2 : many - 1, leaf);
        return recordWith(x, inner, even ? inner : leaf);
    }
}
