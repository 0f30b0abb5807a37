import java.util.Arrays;

/** Rules with patterns, and the tree of decisions that is made of them. */
public final class RuleTree {
    public static final int NONE = -1;
    public static final int FULL = -2;
    public static final int STUCK = -3;

    private static final int MOST_FAMILIES = 1024;
    private static final int MOST_TAGS = 64;
    private static final int MOST_PATTERNS = 16384;
    private static final int MOST_WEIGHT = 10000;
    private static final int MOST_FIELDS = 128;
    private static final int MOST_RULES = 1024;
    private static final int MOST_RULES_WEIGHT = 16384;
    private static final int MOST_NODES = 4096;
    private static final int MOST_KINDS = 4;

    private static final int BYTE_KIND = 2;
    private static final int BYTE_NUMBERS = 256;
    private static final int PATH_BYTES = 8;

    /** Far above the steps of any walk: patterns, rules and trees are bounded much lower. */
    private static final int MOST_STEPS = 1000000;
    private static final int FEWEST_CELLS = 16;
    private static final int MOST_CELLS = 1 << 22;

    /** The shapes of patterns, numbered as missing() tells them. */
    private static final int ANY = 0;
    private static final int CONSTANT = 1;
    private static final int BUILT = 2;
    private static final int NAME = 3;
    private static final int RECORD = 4;

    private static final int ROOT = 0;
    private static final int NOT_GROWN = 0;

    private final Families families;
    private final Patterns patterns;
    private final Pushed pushed;
    private final Pairs pairs;
    private final Row rules;
    private final Parts parts;
    private final Nodes nodes;
    private final Grower grower;
    private final Walker walker;
    private final Gap gap;
    private int rulesWeight;
    /** What grow() answers for these rules, or NOT_GROWN when it was not asked. */
    private int grown;

    public RuleTree() {
        families = new Families();
        patterns = new Patterns();
        pushed = new Pushed();
        pairs = new Pairs(patterns);
        rules = new Row();
        parts = new Parts(patterns);
        nodes = new Nodes();
        grower = new Grower(families, parts, nodes);
        walker = new Walker(patterns, parts, nodes);
        gap = new Gap(families, parts, nodes);
        rulesWeight = 0;
        grown = NOT_GROWN;
    }

    public int family(int n, long arguments) {
        if (n < 1 || n > MOST_TAGS) {
            return NONE;
        }
        // A shift by 64 would be one by 0.
        if (n < MOST_TAGS && arguments >>> n != 0) {
            return NONE;
        }
        return families.add(n, arguments);
    }

    public int any() {
        return patterns.addPlain(ANY, 0, 0, NONE);
    }

    public int constant(int kind, int value) {
        if (kind < 0 || kind >= MOST_KINDS) {
            return NONE;
        }
        if (kind == BYTE_KIND && (value < 0 || value >= BYTE_NUMBERS)) {
            return NONE;
        }
        return patterns.addPlain(CONSTANT, kind, value, NONE);
    }

    public int built(int family, int tag, int of) {
        if (!families.hasTag(family, tag)) {
            return NONE;
        }
        boolean right = families.takesArgument(family, tag) ? patterns.has(of) : of == NONE;
        return right ? patterns.addPlain(BUILT, family, tag, of) : NONE;
    }

    public int name(int e, int of) {
        if (e < 0 || of != NONE && !patterns.has(of)) {
            return NONE;
        }
        return patterns.addPlain(NAME, 0, e, of);
    }

    public int push(int field, int pattern) {
        if (!patterns.has(pattern) || field < 0 || field >= MOST_FIELDS || pushed.at(field) != NONE) {
            return NONE;
        }
        pushed.put(field, pattern);
        return pushed.many();
    }

    public int record(int n) {
        if (n < 0 || n > MOST_FIELDS || pushed.reachesTo(n)) {
            return NONE;
        }
        int made = patterns.addRecord(n, pushed);
        if (made != FULL) {
            pushed.empty();
        }
        return made;
    }

    public int rule(int pattern) {
        if (!patterns.has(pattern) || !pairs.goWith(rules, pattern)) {
            return NONE;
        }
        int weight = rulesWeight + patterns.weight(pattern);
        if (rules.size() >= MOST_RULES || weight > MOST_RULES_WEIGHT) {
            return FULL;
        }
        int made = rules.add(pattern);
        rulesWeight = weight;
        parts.lay(made, pattern);
        grown = NOT_GROWN;
        return made;
    }

    public int clear() {
        int gone = rules.size();
        dropRules();
        return gone;
    }

    public int forget() {
        int gone = patterns.size();
        dropRules();
        families.empty();
        patterns.empty();
        pushed.empty();
        return gone;
    }

    public int grow() {
        if (grown == NOT_GROWN) {
            grown = grower.make(rules.size());
            if (hasTree()) {
                gap.find();
            }
        }
        return grown;
    }

    public int run(int value) {
        return hasTree() && patterns.isValue(value) ? walker.walk(value) : NONE;
    }

    public int looks(int value) {
        if (!hasTree() || !patterns.isValue(value)) {
            return NONE;
        }
        return walker.walk(value) == STUCK ? NONE : walker.looked();
    }

    public int first(int value) {
        if (!patterns.isValue(value)) {
            return NONE;
        }
        for (int rule = 0; rule < rules.size(); rule++) {
            if (pairs.match(rules.at(rule), value)) {
                return rule;
            }
        }
        return NONE;
    }

    public boolean fits(int value) {
        return patterns.isValue(value) && pairs.goWith(rules, value);
    }

    public int ends(int rule) {
        if (!hasTree() || rule < NONE || rule >= rules.size()) {
            return NONE;
        }
        return nodes.endsWith(rule);
    }

    public int depth() {
        return hasTree() ? nodes.deepest() : NONE;
    }

    public int missing(long path, int what) {
        return hasTree() ? gap.tell(path, what) : NONE;
    }

    public int count(int what) {
        switch (what) {
            case 0:
                return families.size();
            case 1:
                return patterns.size();
            case 2:
                return pushed.many();
            case 3:
                return rules.size();
            case 4:
                return hasTree() ? grown : 0;
            default:
                return NONE;
        }
    }

    private boolean hasTree() {
        return grown > 0;
    }

    private void dropRules() {
        rules.empty();
        rulesWeight = 0;
        parts.empty();
        grown = NOT_GROWN;
    }

    /** Numbers in a row that is used again; every index is tested here, so that none need be elsewhere. */
    private static final class Row {
        private int[] cells;
        private int size;

        Row() {
            cells = new int[FEWEST_CELLS];
            size = 0;
        }

        int size() {
            return size;
        }

        int at(int index) {
            return index >= 0 && index < size ? cells[index] : NONE;
        }

        void set(int index, int cell) {
            if (index >= 0 && index < size) {
                cells[index] = cell;
            }
        }

        int add(int cell) {
            if (size >= cells.length && cells.length <= MOST_CELLS / 2) {
                cells = Arrays.copyOf(cells, cells.length * 2);
            }
            if (size >= cells.length) {
                return NONE;
            }
            cells[size] = cell;
            size++;
            return size - 1;
        }

        int take() {
            if (size <= 0) {
                return NONE;
            }
            size--;
            return cells[size];
        }

        void empty() {
            size = 0;
        }

        void refill(int many, int cell) {
            size = 0;
            for (int i = 0; i < many; i++) {
                add(cell);
            }
        }
    }

    private static final class Families {
        private final Row sizes;
        private final long[] arguments;

        Families() {
            sizes = new Row();
            arguments = new long[MOST_FAMILIES];
        }

        int size() {
            return sizes.size();
        }

        int add(int n, long mask) {
            int number = sizes.size();
            if (number < 0 || number >= arguments.length) {
                return FULL;
            }
            arguments[number] = mask;
            return sizes.add(n);
        }

        int tags(int number) {
            return sizes.at(number);
        }

        boolean hasTag(int number, int tag) {
            return tag >= 0 && tag < sizes.at(number);
        }

        boolean takesArgument(int number, int tag) {
            return hasTag(number, tag) && number >= 0 && number < arguments.length
                && (arguments[number] >>> tag & 1L) != 0;
        }

        void empty() {
            sizes.empty();
        }
    }

    /** The fields that wait for a record. */
    private static final class Pushed {
        private final Row patterns;
        private int many;

        Pushed() {
            patterns = new Row();
            patterns.refill(MOST_FIELDS, NONE);
            many = 0;
        }

        int many() {
            return many;
        }

        int at(int field) {
            return patterns.at(field);
        }

        void put(int field, int pattern) {
            patterns.set(field, pattern);
            many++;
        }

        boolean reachesTo(int n) {
            for (int field = n; field < MOST_FIELDS; field++) {
                if (patterns.at(field) != NONE) {
                    return true;
                }
            }
            return false;
        }

        void empty() {
            patterns.refill(MOST_FIELDS, NONE);
            many = 0;
        }
    }

    private static final class Patterns {
        private final Row shapes;
        /** A constant's kind, a family, or how many fields a record has. */
        private final Row sorts;
        /** A constant's number, a tag or a name. */
        private final Row marks;
        /** The argument, or, of a record, where its fields begin. */
        private final Row inners;
        private final Row widths;
        private final Row weights;
        private final Row whole;
        private final Row fieldNumbers;
        private final Row fieldPatterns;

        Patterns() {
            shapes = new Row();
            sorts = new Row();
            marks = new Row();
            inners = new Row();
            widths = new Row();
            weights = new Row();
            whole = new Row();
            fieldNumbers = new Row();
            fieldPatterns = new Row();
        }

        int size() {
            return shapes.size();
        }

        boolean has(int pattern) {
            return pattern >= 0 && pattern < shapes.size();
        }

        int shape(int pattern) {
            return shapes.at(pattern);
        }

        int sort(int pattern) {
            return sorts.at(pattern);
        }

        int mark(int pattern) {
            return marks.at(pattern);
        }

        int weight(int pattern) {
            return weights.at(pattern);
        }

        boolean isValue(int pattern) {
            return whole.at(pattern) == 1;
        }

        int argument(int pattern) {
            int shape = shapes.at(pattern);
            return shape == BUILT || shape == NAME ? inners.at(pattern) : NONE;
        }

        /** How many fields of a record have a pattern; they are told by their rank among these. */
        int width(int pattern) {
            return widths.at(pattern);
        }

        int fieldNumber(int pattern, int rank) {
            return fieldNumbers.at(inners.at(pattern) + rank);
        }

        int fieldPattern(int pattern, int rank) {
            return fieldPatterns.at(inners.at(pattern) + rank);
        }

        int addPlain(int shape, int sort, int mark, int of) {
            int weight = of == NONE ? 1 : 1 + weights.at(of);
            if (!hasRoom(weight)) {
                return FULL;
            }
            boolean full = shape != ANY && (of == NONE || isValue(of));
            sorts.add(sort);
            marks.add(mark);
            inners.add(of);
            widths.add(0);
            weights.add(weight);
            whole.add(full ? 1 : 0);
            return shapes.add(shape);
        }

        int addRecord(int n, Pushed pushed) {
            int weight = recordWeight(n, pushed);
            if (!hasRoom(weight)) {
                return FULL;
            }
            boolean full = isFull(n, pushed);
            sorts.add(n);
            marks.add(0);
            inners.add(fieldNumbers.size());
            widths.add(pushed.many());
            weights.add(weight);
            whole.add(full ? 1 : 0);
            addFields(n, pushed);
            return shapes.add(RECORD);
        }

        void empty() {
            shapes.empty();
            sorts.empty();
            marks.empty();
            inners.empty();
            widths.empty();
            weights.empty();
            whole.empty();
            fieldNumbers.empty();
            fieldPatterns.empty();
        }

        private boolean hasRoom(int weight) {
            return shapes.size() < MOST_PATTERNS && weight <= MOST_WEIGHT;
        }

        private int recordWeight(int n, Pushed pushed) {
            int weight = 1;
            for (int field = 0; field < n; field++) {
                int pattern = pushed.at(field);
                weight += pattern == NONE ? 0 : weights.at(pattern);
            }
            return weight;
        }

        private boolean isFull(int n, Pushed pushed) {
            for (int field = 0; field < n; field++) {
                if (!isValue(pushed.at(field))) {
                    return false;
                }
            }
            return true;
        }

        private void addFields(int n, Pushed pushed) {
            for (int field = 0; field < n; field++) {
                if (pushed.at(field) != NONE) {
                    fieldNumbers.add(field);
                    fieldPatterns.add(pushed.at(field));
                }
            }
        }
    }

    /** Two patterns side by side; with a stack of its own, for patterns may be hundreds deep. */
    private static final class Pairs {
        private final Patterns patterns;
        private final Row open;

        Pairs(Patterns patterns) {
            this.patterns = patterns;
            open = new Row();
        }

        boolean match(int pattern, int value) {
            return hold(pattern, value, true);
        }

        /** Whether all of these go together with a pattern. */
        boolean goWith(Row all, int pattern) {
            boolean good = true;
            for (int i = 0; good && i < all.size(); i++) {
                good = hold(all.at(i), pattern, false);
            }
            return good;
        }

        /** ANY on either side is taken for a match too, for a value has none. */
        private boolean hold(int one, int other, boolean matching) {
            open.empty();
            open.add(one);
            open.add(other);
            boolean good = true;
            for (int steps = 0; good && open.size() > 0 && steps < MOST_STEPS; steps++) {
                int right = open.take();
                int left = open.take();
                if (patterns.shape(left) == ANY || patterns.shape(right) == ANY) {
                    continue;
                }
                boolean sameMark = patterns.mark(left) == patterns.mark(right);
                good = sameSort(left, right) && (sameMark ? putInner(left, right) : !matching);
            }
            return good;
        }

        private boolean sameSort(int one, int other) {
            return patterns.shape(one) == patterns.shape(other) && patterns.sort(one) == patterns.sort(other);
        }

        /** False when just one of the two has an argument. */
        private boolean putInner(int one, int other) {
            if (patterns.shape(one) == RECORD) {
                putFields(one, other);
                return true;
            }
            int left = patterns.argument(one);
            int right = patterns.argument(other);
            if (left == NONE || right == NONE) {
                return left == right;
            }
            open.add(left);
            open.add(right);
            return true;
        }

        /** Both have their fields in rising order, so that one pass finds those of both. */
        private void putFields(int one, int other) {
            int right = 0;
            for (int left = 0; left < patterns.width(one); left++) {
                int field = patterns.fieldNumber(one, left);
                while (right < patterns.width(other) && patterns.fieldNumber(other, right) < field) {
                    right++;
                }
                if (right < patterns.width(other) && patterns.fieldNumber(other, right) == field) {
                    open.add(patterns.fieldPattern(one, left));
                    open.add(patterns.fieldPattern(other, right));
                }
            }
        }
    }

    /**
     * All rules' patterns laid over one another. A part stands for a path together with the tags and
     * names above it, so that all rules which have something there have the same sort. An edge leads on
     * from a part by a constant, tag, name or field; an ask is a rule's at an edge that is no field.
     */
    private static final class Parts {
        private final Patterns patterns;
        private final Row shapes;
        private final Row sorts;
        private final Row uppers;
        private final Row upperEdges;
        private final Row firstEdges;
        private final Row labels;
        private final Row nextEdges;
        private final Row children;
        private final Row firstAsks;
        private final Row askRules;
        private final Row askParts;
        private final Row nextAsks;
        private final Row starts;
        private final Row open;

        Parts(Patterns patterns) {
            this.patterns = patterns;
            shapes = new Row();
            sorts = new Row();
            uppers = new Row();
            upperEdges = new Row();
            firstEdges = new Row();
            labels = new Row();
            nextEdges = new Row();
            children = new Row();
            firstAsks = new Row();
            askRules = new Row();
            askParts = new Row();
            nextAsks = new Row();
            starts = new Row();
            open = new Row();
            addPart(NONE, NONE);
        }

        int size() {
            return shapes.size();
        }

        int shape(int part) {
            return shapes.at(part);
        }

        int sort(int part) {
            return sorts.at(part);
        }

        int upper(int part) {
            return uppers.at(part);
        }

        /** By what edge a part is reached from the one above it. */
        int upperEdge(int part) {
            return upperEdges.at(part);
        }

        int edges() {
            return labels.size();
        }

        int firstEdge(int part) {
            return firstEdges.at(part);
        }

        int nextEdge(int edge) {
            return nextEdges.at(edge);
        }

        int label(int edge) {
            return labels.at(edge);
        }

        int child(int edge) {
            return children.at(edge);
        }

        int edgeOf(int part, int label) {
            int edge = edgeAfter(part, lastBelow(part, label));
            return edge != NONE && labels.at(edge) == label ? edge : NONE;
        }

        int asks() {
            return askRules.size();
        }

        int firstAsk(int edge) {
            return firstAsks.at(edge);
        }

        int nextAsk(int ask) {
            return nextAsks.at(ask);
        }

        int askRule(int ask) {
            return askRules.at(ask);
        }

        int askPart(int ask) {
            return askParts.at(ask);
        }

        /** A rule's asks stand one after another, in the order of their paths. */
        int startOf(int rule) {
            return starts.at(rule);
        }

        int stopOf(int rule) {
            return rule + 1 < starts.size() ? starts.at(rule + 1) : askRules.size();
        }

        void lay(int rule, int pattern) {
            starts.add(askRules.size());
            open.empty();
            putOpen(pattern, ROOT);
            for (int steps = 0; open.size() > 0 && steps < MOST_STEPS; steps++) {
                int part = open.take();
                int here = open.take();
                if (patterns.shape(here) == RECORD) {
                    layRecord(here, part);
                } else if (patterns.shape(here) != ANY) {
                    layAsk(rule, here, part);
                }
            }
        }

        void empty() {
            shapes.empty();
            sorts.empty();
            uppers.empty();
            upperEdges.empty();
            firstEdges.empty();
            labels.empty();
            nextEdges.empty();
            children.empty();
            firstAsks.empty();
            askRules.empty();
            askParts.empty();
            nextAsks.empty();
            starts.empty();
            addPart(NONE, NONE);
        }

        private void putOpen(int pattern, int part) {
            open.add(pattern);
            open.add(part);
        }

        private void layRecord(int pattern, int part) {
            setSort(part, pattern);
            // The last one first, for the stack hands them back the other way round.
            for (int rank = patterns.width(pattern) - 1; rank >= 0; rank--) {
                int edge = edgeFor(part, patterns.fieldNumber(pattern, rank));
                putOpen(patterns.fieldPattern(pattern, rank), childFor(part, edge));
            }
        }

        private void layAsk(int rule, int pattern, int part) {
            setSort(part, pattern);
            int edge = edgeFor(part, patterns.mark(pattern));
            askRules.add(rule);
            askParts.add(part);
            nextAsks.add(firstAsks.at(edge));
            firstAsks.set(edge, askRules.size() - 1);
            int argument = patterns.argument(pattern);
            if (argument != NONE) {
                putOpen(argument, childFor(part, edge));
            }
        }

        private void setSort(int part, int pattern) {
            shapes.set(part, patterns.shape(pattern));
            sorts.set(part, patterns.sort(pattern));
        }

        private int edgeFor(int part, int label) {
            int before = lastBelow(part, label);
            int after = edgeAfter(part, before);
            boolean there = after != NONE && labels.at(after) == label;
            return there ? after : addEdge(part, before, label);
        }

        /** The last edge from a part whose label is below this one; edges stand in rising order. */
        private int lastBelow(int part, int label) {
            int before = NONE;
            int edge = firstEdges.at(part);
            for (int left = labels.size(); left > 0 && edge != NONE && labels.at(edge) < label; left--) {
                before = edge;
                edge = nextEdges.at(edge);
            }
            return before;
        }

        private int edgeAfter(int part, int before) {
            return before == NONE ? firstEdges.at(part) : nextEdges.at(before);
        }

        private int addEdge(int part, int before, int label) {
            nextEdges.add(edgeAfter(part, before));
            children.add(NONE);
            firstAsks.add(NONE);
            int edge = labels.add(label);
            if (before == NONE) {
                firstEdges.set(part, edge);
            } else {
                nextEdges.set(before, edge);
            }
            return edge;
        }

        private int childFor(int part, int edge) {
            if (children.at(edge) == NONE) {
                children.set(edge, addPart(part, edge));
            }
            return children.at(edge);
        }

        private int addPart(int upper, int edge) {
            sorts.add(0);
            uppers.add(upper);
            upperEdges.add(edge);
            firstEdges.add(NONE);
            return shapes.add(ANY);
        }
    }

    /** The tree's nodes, in the order of a way through all of it, branches in order. */
    private static final class Nodes {
        /** The part that is looked at, or NONE for an end. */
        private final Row parts;
        /** The first possible rule; of an end, its rule. */
        private final Row rules;
        private final Row asks;
        private final Row uppers;
        /** The edge that the branch to the node goes by, or NONE for all others (and for the root). */
        private final Row edges;
        private final Row firsts;
        private final Row lasts;
        private final Row nexts;
        private final Row branches;
        private final Row depths;

        Nodes() {
            parts = new Row();
            rules = new Row();
            asks = new Row();
            uppers = new Row();
            edges = new Row();
            firsts = new Row();
            lasts = new Row();
            nexts = new Row();
            branches = new Row();
            depths = new Row();
        }

        int size() {
            return parts.size();
        }

        void empty() {
            parts.empty();
            rules.empty();
            asks.empty();
            uppers.empty();
            edges.empty();
            firsts.empty();
            lasts.empty();
            nexts.empty();
            branches.empty();
            depths.empty();
        }

        int add(int upper, int edge) {
            rules.add(NONE);
            asks.add(NONE);
            uppers.add(upper);
            edges.add(edge);
            firsts.add(NONE);
            lasts.add(NONE);
            nexts.add(NONE);
            branches.add(0);
            depths.add(upper == NONE ? 0 : depths.at(upper) + 1);
            int node = parts.add(NONE);
            if (upper != NONE) {
                hang(upper, node);
            }
            return node;
        }

        void settle(int node, int rule, int ask, int part) {
            rules.set(node, rule);
            asks.set(node, ask);
            parts.set(node, part);
        }

        int part(int node) {
            return parts.at(node);
        }

        int ruleAt(int node) {
            return rules.at(node);
        }

        int ask(int node) {
            return asks.at(node);
        }

        int upper(int node) {
            return uppers.at(node);
        }

        int edge(int node) {
            return edges.at(node);
        }

        int firstBranch(int node) {
            return firsts.at(node);
        }

        int lastBranch(int node) {
            return lasts.at(node);
        }

        int nextBranch(int node) {
            return nexts.at(node);
        }

        int branches(int node) {
            return branches.at(node);
        }

        int endsWith(int rule) {
            int many = 0;
            for (int node = 0; node < parts.size(); node++) {
                if (isEndWith(node, rule)) {
                    many++;
                }
            }
            return many;
        }

        int firstEndWith(int rule) {
            for (int node = 0; node < parts.size(); node++) {
                if (isEndWith(node, rule)) {
                    return node;
                }
            }
            return NONE;
        }

        int deepest() {
            int most = 0;
            for (int node = 0; node < depths.size(); node++) {
                most = Math.max(most, depths.at(node));
            }
            return most;
        }

        private boolean isEndWith(int node, int rule) {
            return parts.at(node) == NONE && rules.at(node) == rule;
        }

        private void hang(int upper, int node) {
            if (lasts.at(upper) == NONE) {
                firsts.set(upper, node);
            } else {
                nexts.set(lasts.at(upper), node);
            }
            lasts.set(upper, node);
            branches.set(upper, branches.at(upper) + 1);
        }
    }

    /** Goes through all of the tree once, branch by branch, and makes its nodes on the way. */
    private static final class Grower {
        private final Families families;
        private final Parts parts;
        private final Nodes nodes;
        /** For each rule the node on the way that contradicts it, or NONE as long as it is possible. */
        private final Row outs;
        private final Row looked;

        Grower(Families families, Parts parts, Nodes nodes) {
            this.families = families;
            this.parts = parts;
            this.nodes = nodes;
            outs = new Row();
            looked = new Row();
        }

        int make(int rules) {
            outs.refill(rules, NONE);
            looked.refill(parts.size(), 0);
            nodes.empty();
            int node = enter(NONE, NONE);
            for (int steps = 0; node != NONE && nodes.size() <= MOST_NODES && steps < MOST_STEPS; steps++) {
                int edge = nextEdge(node);
                node = edge == NONE && !othersLeft(node) ? leave(node) : enter(node, edge);
            }
            return nodes.size() > MOST_NODES ? FULL : nodes.size();
        }

        private int enter(int upper, int edge) {
            ruleOut(upper, edge);
            int node = nodes.add(upper, edge);
            int before = nodes.ruleAt(upper);
            int rule = firstPossible(Math.max(before, 0));
            if (rule == NONE) {
                return node;
            }
            int ask = firstNotLooked(rule, rule == before ? nodes.ask(upper) : parts.startOf(rule));
            int part = ask == NONE ? NONE : parts.askPart(ask);
            nodes.settle(node, rule, ask, part);
            looked.set(part, 1);
            return node;
        }

        private int leave(int node) {
            looked.set(nodes.part(node), 0);
            int upper = nodes.upper(node);
            if (upper != NONE) {
                letIn(upper);
            }
            return upper;
        }

        private int firstPossible(int from) {
            for (int rule = from; rule < outs.size(); rule++) {
                if (outs.at(rule) == NONE) {
                    return rule;
                }
            }
            return NONE;
        }

        private int firstNotLooked(int rule, int from) {
            int stop = parts.stopOf(rule);
            for (int ask = from; ask < stop; ask++) {
                if (looked.at(parts.askPart(ask)) == 0) {
                    return ask;
                }
            }
            return NONE;
        }

        /** The next edge that some possible rule asks for, after the branches that the node has; none of an end. */
        private int nextEdge(int node) {
            int last = nodes.lastBranch(node);
            int edge = last == NONE ? parts.firstEdge(nodes.part(node)) : parts.nextEdge(nodes.edge(last));
            for (int left = parts.edges(); left > 0 && edge != NONE && !isAsked(edge); left--) {
                edge = parts.nextEdge(edge);
            }
            return edge;
        }

        private boolean isAsked(int edge) {
            int ask = parts.firstAsk(edge);
            for (int left = parts.asks(); left > 0 && ask != NONE; left--) {
                if (outs.at(parts.askRule(ask)) == NONE) {
                    return true;
                }
                ask = parts.nextAsk(ask);
            }
            return false;
        }

        private boolean othersLeft(int node) {
            int part = nodes.part(node);
            int last = nodes.lastBranch(node);
            if (part == NONE || last != NONE && nodes.edge(last) == NONE) {
                return false;
            }
            if (parts.shape(part) == BUILT) {
                return nodes.branches(node) < families.tags(parts.sort(part));
            }
            boolean bytes = parts.shape(part) == CONSTANT && parts.sort(part) == BYTE_KIND;
            return !bytes || nodes.branches(node) < BYTE_NUMBERS;
        }

        /** Nothing is ruled out on the way to the root, which has no node above it. */
        private void ruleOut(int node, int taken) {
            int edge = parts.firstEdge(nodes.part(node));
            for (int left = parts.edges(); left > 0 && edge != NONE; left--) {
                if (edge != taken) {
                    changeOuts(edge, NONE, node);
                }
                edge = parts.nextEdge(edge);
            }
        }

        private void letIn(int node) {
            int edge = parts.firstEdge(nodes.part(node));
            for (int left = parts.edges(); left > 0 && edge != NONE; left--) {
                changeOuts(edge, node, NONE);
                edge = parts.nextEdge(edge);
            }
        }

        private void changeOuts(int edge, int from, int to) {
            int ask = parts.firstAsk(edge);
            for (int left = parts.asks(); left > 0 && ask != NONE; left--) {
                int rule = parts.askRule(ask);
                if (outs.at(rule) == from) {
                    outs.set(rule, to);
                }
                ask = parts.nextAsk(ask);
            }
        }
    }

    /** Takes one value through the tree. */
    private static final class Walker {
        /** No pattern's number, and not NONE either, which says that the value has nothing there. */
        private static final int UNKNOWN = -4;

        private final Patterns patterns;
        private final Parts parts;
        private final Nodes nodes;
        /** For each part, what the value has there. */
        private final Row seen;
        private final Row climbed;
        private int looked;

        Walker(Patterns patterns, Parts parts, Nodes nodes) {
            this.patterns = patterns;
            this.parts = parts;
            this.nodes = nodes;
            seen = new Row();
            climbed = new Row();
            looked = 0;
        }

        int looked() {
            return looked;
        }

        int walk(int value) {
            seen.refill(parts.size(), UNKNOWN);
            seen.set(ROOT, value);
            looked = 0;
            int node = 0;
            for (int left = nodes.size(); left > 0 && node != NONE && nodes.part(node) != NONE; left--) {
                node = branch(node);
                looked++;
            }
            return node == NONE ? STUCK : nodes.ruleAt(node);
        }

        /** The node that a branch leads to, or NONE when the value is stuck. */
        private int branch(int node) {
            int part = nodes.part(node);
            int here = valueAt(part);
            if (here == NONE || patterns.shape(here) != parts.shape(part)
                || patterns.sort(here) != parts.sort(part)) {
                return NONE;
            }
            int next = branchFor(node, patterns.mark(here));
            boolean others = nodes.edge(next) == NONE;
            return others || sameArguments(here, nodes.edge(next)) ? next : NONE;
        }

        private int branchFor(int node, int mark) {
            int next = nodes.firstBranch(node);
            for (int left = nodes.size(); left > 0 && next != NONE; left--) {
                int edge = nodes.edge(next);
                if (edge == NONE || parts.label(edge) == mark) {
                    return next;
                }
                next = nodes.nextBranch(next);
            }
            return NONE;
        }

        private boolean sameArguments(int pattern, int edge) {
            return (patterns.argument(pattern) == NONE) == (parts.child(edge) == NONE);
        }

        private int valueAt(int part) {
            climbed.empty();
            int above = part;
            for (int left = parts.size(); left > 0 && seen.at(above) == UNKNOWN; left--) {
                climbed.add(above);
                above = parts.upper(above);
            }
            for (int left = climbed.size(); left > 0; left--) {
                int below = climbed.take();
                seen.set(below, inner(seen.at(above), above, below));
                above = below;
            }
            return seen.at(part);
        }

        private int inner(int pattern, int above, int below) {
            if (patterns.shape(pattern) != parts.shape(above) || patterns.sort(pattern) != parts.sort(above)) {
                return NONE;
            }
            int label = parts.label(parts.upperEdge(below));
            if (parts.shape(above) == RECORD) {
                // A value has a pattern for each field, so that ranks are the fields' numbers.
                return patterns.fieldPattern(pattern, label);
            }
            return patterns.mark(pattern) == label ? patterns.argument(pattern) : NONE;
        }
    }

    /** The missing value, as it is told on the way to the first end without a rule. */
    private static final class Gap {
        /** Below the missing value's last told part: a part that no rule has. */
        private static final int BARE = -4;

        private final Families families;
        private final Parts parts;
        private final Nodes nodes;
        /** For each part its shape in the missing value. */
        private final Row told;
        private final Row marks;
        private int end;

        Gap(Families families, Parts parts, Nodes nodes) {
            this.families = families;
            this.parts = parts;
            this.nodes = nodes;
            told = new Row();
            marks = new Row();
            end = NONE;
        }

        void find() {
            told.refill(parts.size(), ANY);
            marks.refill(parts.size(), NONE);
            end = nodes.firstEndWith(NONE);
            int node = end;
            for (int left = nodes.size(); left > 0 && nodes.upper(node) != NONE; left--) {
                tellBranch(nodes.upper(node), nodes.edge(node));
                node = nodes.upper(node);
            }
        }

        int tell(long path, int what) {
            if (end == NONE) {
                return NONE;
            }
            int part = ROOT;
            for (int i = 0; i < PATH_BYTES && part != NONE; i++) {
                int step = (int) (path >>> 8 * i & 255L);
                if (step == 0) {
                    break;
                }
                part = below(part, step);
            }
            return part == NONE ? NONE : tellPart(part, what);
        }

        private void tellBranch(int node, int edge) {
            int part = nodes.part(node);
            told.set(part, parts.shape(part));
            marks.set(part, edge == NONE ? leastOther(node) : parts.label(edge));
            int above = parts.upper(part);
            for (int left = parts.size(); left > 0 && parts.shape(above) == RECORD; left--) {
                told.set(above, RECORD);
                above = parts.upper(above);
            }
        }

        private int leastOther(int node) {
            int least = 0;
            int next = nodes.firstBranch(node);
            for (int left = nodes.size(); left > 0 && next != NONE; left--) {
                int edge = nodes.edge(next);
                if (edge != NONE && parts.label(edge) == least) {
                    least++;
                }
                next = nodes.nextBranch(next);
            }
            return least;
        }

        private int tellPart(int part, int what) {
            int shape = part == BARE ? ANY : told.at(part);
            if (what == 0) {
                return shape;
            }
            return what == 1 && shape != ANY && shape != RECORD ? marks.at(part) : NONE;
        }

        /** The part a step below, BARE where no rule has one, or NONE when there is no such part. */
        private int below(int part, int step) {
            int shape = part == BARE ? ANY : told.at(part);
            if (shape == RECORD) {
                return step <= parts.sort(part) ? childOrBare(part, step - 1) : NONE;
            }
            if (step != 1) {
                return NONE;
            }
            int mark = marks.at(part);
            if (shape == BUILT) {
                return families.takesArgument(parts.sort(part), mark) ? childOrBare(part, mark) : NONE;
            }
            return shape == NAME ? parts.child(parts.edgeOf(part, mark)) : NONE;
        }

        private int childOrBare(int part, int label) {
            int child = parts.child(parts.edgeOf(part, label));
            return child == NONE ? BARE : child;
        }
    }
}
