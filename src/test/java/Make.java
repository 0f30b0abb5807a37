/** Records that several tests make. */
final class Make {
    private Make() {
    }

    /** A record of two fields, each with a pattern or (NONE) without. */
    static int pair(RuleTree x, int left, int right) {
        if (left != RuleTree.NONE) {
            x.push(0, left);
        }
        if (right != RuleTree.NONE) {
            x.push(1, right);
        }
        return x.record(2);
    }

    /** A record of n fields, the first ones of them with the same pattern. */
    static int recordOf(RuleTree x, int n, int given, int pattern) {
        for (int field = 0; field < given; field++) {
            x.push(field, pattern);
        }
        return x.record(n);
    }
}
