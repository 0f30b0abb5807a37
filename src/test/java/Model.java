import java.util.ArrayList;
import java.util.HashMap;
import java.util.LinkedHashMap;
import java.util.List;
import java.util.Map;
import java.util.TreeMap;
import java.util.TreeSet;

/**
 * The document said once more in the plainest way, to compare with: patterns are objects, paths are
 * texts whose characters are the steps (their order is then the document's), and nothing is fast.
 */
final class Model {
    private static final int NONE = -1;
    private static final int FULL = -2;
    private static final int STUCK = -3;

    private static final class Pattern {
        int shape;
        int sort;
        int mark;
        Pattern argument;
        Pattern[] fields = new Pattern[0];
        int size = 1;
        final TreeMap<String, Pattern> asks = new TreeMap<>();
    }

    private static final class Node {
        String path;
        Pattern asking;
        Pattern asked;
        int rule;
        final TreeMap<Integer, Node> branches = new TreeMap<>();
        final Map<Integer, Pattern> samples = new HashMap<>();
        Node others;
    }

    private record Told(int shape, int sort, int mark) {
    }

    private static final class TooMany extends RuntimeException {
        private static final long serialVersionUID = 1L;
    }

    private final List<long[]> families = new ArrayList<>();
    private final List<Pattern> patterns = new ArrayList<>();
    private final TreeMap<Integer, Pattern> pushed = new TreeMap<>();
    private final List<Pattern> rules = new ArrayList<>();
    private Node tree;
    private int nodes;
    private int looked;

    int family(int n, long arguments) {
        if (n < 1 || n > 64) {
            return NONE;
        }
        for (int bit = n; bit < 64; bit++) {
            if ((arguments >> bit & 1) == 1) {
                return NONE;
            }
        }
        families.add(new long[] {n, arguments});
        return families.size() - 1;
    }

    int any() {
        return keep(new Pattern());
    }

    int constant(int kind, int value) {
        if (kind < 0 || kind > 3 || kind == 2 && (value < 0 || value > 255)) {
            return NONE;
        }
        return keep(plain(1, kind, value, null));
    }

    int built(int family, int tag, int of) {
        if (family < 0 || family >= families.size() || tag < 0 || tag >= families.get(family)[0]) {
            return NONE;
        }
        if (takes(family, tag) ? !has(of) : of != NONE) {
            return NONE;
        }
        return keep(plain(2, family, tag, of == NONE ? null : patterns.get(of)));
    }

    int name(int e, int of) {
        if (e < 0 || of != NONE && !has(of)) {
            return NONE;
        }
        return keep(plain(3, 0, e, of == NONE ? null : patterns.get(of)));
    }

    int push(int field, int pattern) {
        if (!has(pattern) || field < 0 || field > 127 || pushed.containsKey(field)) {
            return NONE;
        }
        pushed.put(field, patterns.get(pattern));
        return pushed.size();
    }

    int record(int n) {
        if (n < 0 || n > 128 || !pushed.isEmpty() && pushed.lastKey() >= n) {
            return NONE;
        }
        Pattern made = new Pattern();
        made.shape = 4;
        made.sort = n;
        made.fields = new Pattern[n];
        for (Map.Entry<Integer, Pattern> entry : pushed.entrySet()) {
            made.fields[entry.getKey()] = entry.getValue();
            made.size += entry.getValue().size;
        }
        int number = keep(made);
        if (number != FULL) {
            pushed.clear();
        }
        return number;
    }

    int rule(int pattern) {
        if (!has(pattern)) {
            return NONE;
        }
        int size = patterns.get(pattern).size;
        for (Pattern before : rules) {
            if (!goTogether(before, patterns.get(pattern))) {
                return NONE;
            }
            size += before.size;
        }
        if (size > 16384 || rules.size() >= 1024) {
            return FULL;
        }
        Pattern added = patterns.get(pattern);
        if (added.asks.isEmpty()) {
            collectAsks(added, "", added.asks);
        }
        rules.add(added);
        tree = null;
        return rules.size() - 1;
    }

    int clear() {
        int gone = rules.size();
        rules.clear();
        tree = null;
        return gone;
    }

    int forget() {
        int gone = patterns.size();
        clear();
        families.clear();
        patterns.clear();
        pushed.clear();
        return gone;
    }

    int grow() {
        nodes = 0;
        try {
            tree = makeNode(new LinkedHashMap<>());
        } catch (TooMany tooMany) {
            tree = null;
            return FULL;
        }
        return nodes;
    }

    int run(int value) {
        looked = NONE;
        if (tree == null || !isValue(value)) {
            return NONE;
        }
        Pattern whole = patterns.get(value);
        int looks = 0;
        Node node = tree;
        while (node.path != null) {
            Pattern here = partOf(whole, node.asking, node.path);
            if (here == null || here.shape != node.asked.shape || here.sort != node.asked.sort) {
                return STUCK;
            }
            looks++;
            Pattern sample = node.samples.get(here.mark);
            if (sample == null) {
                node = node.others;
            } else if (here.shape == 3 && (here.argument == null) != (sample.argument == null)) {
                return STUCK;
            } else {
                node = node.branches.get(here.mark);
            }
        }
        looked = looks;
        return node.rule;
    }

    int looks(int value) {
        run(value);
        return looked;
    }

    int first(int value) {
        if (!isValue(value)) {
            return NONE;
        }
        for (int rule = 0; rule < rules.size(); rule++) {
            if (matches(rules.get(rule), patterns.get(value))) {
                return rule;
            }
        }
        return NONE;
    }

    boolean fits(int value) {
        if (!isValue(value)) {
            return false;
        }
        for (Pattern rule : rules) {
            if (!goTogether(patterns.get(value), rule)) {
                return false;
            }
        }
        return true;
    }

    int ends(int rule) {
        return tree == null || rule < NONE || rule >= rules.size() ? NONE : endsBelow(tree, rule);
    }

    int depth() {
        return tree == null ? NONE : depthBelow(tree);
    }

    int missing(long path, int what) {
        Map<String, Told> told = new TreeMap<>();
        if (tree == null || !tellMissing(tree, told)) {
            return NONE;
        }
        String at = "";
        for (int i = 0; i < 8; i++) {
            char step = (char) (path >> 8 * i & 255);
            if (step == 0) {
                break;
            }
            if (!hasStep(told, at, step)) {
                return NONE;
            }
            at += step;
        }
        Told part = told.get(at);
        if (what == 0) {
            return part == null ? 0 : part.shape;
        }
        return what == 1 && part != null && part.shape != 4 ? part.mark : NONE;
    }

    int count(int what) {
        int[] counts = {families.size(), patterns.size(), pushed.size(), rules.size(), tree == null ? 0 : nodes};
        return what < 0 || what > 4 ? NONE : counts[what];
    }

    private boolean has(int pattern) {
        return pattern >= 0 && pattern < patterns.size();
    }

    private boolean takes(int family, int tag) {
        return (families.get(family)[1] >> tag & 1) == 1;
    }

    private static Pattern plain(int shape, int sort, int mark, Pattern argument) {
        Pattern made = new Pattern();
        made.shape = shape;
        made.sort = sort;
        made.mark = mark;
        made.argument = argument;
        made.size = argument == null ? 1 : 1 + argument.size;
        return made;
    }

    private int keep(Pattern pattern) {
        if (pattern.size > 10000) {
            return FULL;
        }
        patterns.add(pattern);
        return patterns.size() - 1;
    }

    private boolean isValue(int number) {
        return has(number) && isValue(patterns.get(number));
    }

    private static boolean isValue(Pattern pattern) {
        for (Pattern field : pattern.fields) {
            if (field == null || !isValue(field)) {
                return false;
            }
        }
        return pattern.shape != 0 && (pattern.argument == null || isValue(pattern.argument));
    }

    private static boolean matches(Pattern pattern, Pattern value) {
        if (pattern.shape == 0) {
            return true;
        }
        if (pattern.shape != value.shape || pattern.sort != value.sort || pattern.mark != value.mark) {
            return false;
        }
        for (int field = 0; field < pattern.fields.length; field++) {
            if (pattern.fields[field] != null && !matches(pattern.fields[field], value.fields[field])) {
                return false;
            }
        }
        if (pattern.argument == null || value.argument == null) {
            return pattern.argument == value.argument;
        }
        return matches(pattern.argument, value.argument);
    }

    private static boolean goTogether(Pattern one, Pattern other) {
        if (one.shape == 0 || other.shape == 0) {
            return true;
        }
        if (one.shape != other.shape || one.sort != other.sort) {
            return false;
        }
        for (int field = 0; field < one.fields.length; field++) {
            Pattern left = one.fields[field];
            Pattern right = other.fields[field];
            if (left != null && right != null && !goTogether(left, right)) {
                return false;
            }
        }
        if (one.mark != other.mark || one.shape == 1) {
            return true;
        }
        if (one.argument == null || other.argument == null) {
            return one.argument == other.argument;
        }
        return goTogether(one.argument, other.argument);
    }

    private static void collectAsks(Pattern pattern, String path, TreeMap<String, Pattern> asks) {
        if (pattern.shape >= 1 && pattern.shape <= 3) {
            asks.put(path, pattern);
        }
        if (pattern.argument != null) {
            collectAsks(pattern.argument, path + (char) 1, asks);
        }
        for (int field = 0; field < pattern.fields.length; field++) {
            if (pattern.fields[field] != null) {
                collectAsks(pattern.fields[field], path + (char) (field + 1), asks);
            }
        }
    }

    /** What was looked at: for each path what the value has there, null for none that a branch goes by. */
    private static boolean isPossible(Pattern rule, Map<String, Integer> outcomes) {
        for (Map.Entry<String, Integer> outcome : outcomes.entrySet()) {
            Pattern asked = rule.asks.get(outcome.getKey());
            if (asked != null && (outcome.getValue() == null || asked.mark != outcome.getValue())) {
                return false;
            }
        }
        return true;
    }

    private Node makeNode(Map<String, Integer> outcomes) {
        nodes++;
        if (nodes > 4096) {
            throw new TooMany();
        }
        Node node = new Node();
        node.rule = NONE;
        List<Pattern> possible = new ArrayList<>();
        for (int rule = 0; rule < rules.size(); rule++) {
            if (isPossible(rules.get(rule), outcomes)) {
                node.rule = node.rule == NONE ? rule : node.rule;
                possible.add(rules.get(rule));
            }
        }
        if (node.rule == NONE) {
            return node;
        }
        node.asking = rules.get(node.rule);
        for (String path : node.asking.asks.keySet()) {
            if (!outcomes.containsKey(path)) {
                node.path = path;
                node.asked = node.asking.asks.get(path);
                makeBranches(node, possible, outcomes);
                break;
            }
        }
        return node;
    }

    private void makeBranches(Node node, List<Pattern> possible, Map<String, Integer> outcomes) {
        for (Pattern rule : possible) {
            Pattern asked = rule.asks.get(node.path);
            if (asked != null) {
                node.samples.put(asked.mark, asked);
            }
        }
        for (int mark : new TreeSet<>(node.samples.keySet())) {
            outcomes.put(node.path, mark);
            node.branches.put(mark, makeNode(outcomes));
        }
        if (hasOthers(node)) {
            outcomes.put(node.path, null);
            node.others = makeNode(outcomes);
        }
        outcomes.remove(node.path);
    }

    private boolean hasOthers(Node node) {
        if (node.asked.shape == 2) {
            return node.branches.size() < families.get(node.asked.sort)[0];
        }
        return node.asked.shape != 1 || node.asked.sort != 2 || node.branches.size() < 256;
    }

    /** The part of a value at a path, as a rule that asks there goes; null when it is not there. */
    private static Pattern partOf(Pattern value, Pattern rule, String path) {
        Pattern here = value;
        Pattern beside = rule;
        for (char step : path.toCharArray()) {
            if (beside.shape == 4) {
                if (here.shape != 4 || here.sort != beside.sort) {
                    return null;
                }
                here = here.fields[step - 1];
                beside = beside.fields[step - 1];
            } else {
                here = here.argument;
                beside = beside.argument;
            }
            if (here == null) {
                return null;
            }
        }
        return here;
    }

    private static int endsBelow(Node node, int rule) {
        if (node.path == null) {
            return node.rule == rule ? 1 : 0;
        }
        int many = node.others == null ? 0 : endsBelow(node.others, rule);
        for (Node branch : node.branches.values()) {
            many += endsBelow(branch, rule);
        }
        return many;
    }

    private static int depthBelow(Node node) {
        if (node.path == null) {
            return 0;
        }
        int most = node.others == null ? 0 : depthBelow(node.others);
        for (Node branch : node.branches.values()) {
            most = Math.max(most, depthBelow(branch));
        }
        return most + 1;
    }

    private static boolean tellMissing(Node node, Map<String, Told> told) {
        if (node.path == null) {
            return node.rule == NONE;
        }
        for (Map.Entry<Integer, Node> branch : node.branches.entrySet()) {
            if (tellMissing(branch.getValue(), told)) {
                tellPart(node, branch.getKey(), told);
                return true;
            }
        }
        if (node.others == null || !tellMissing(node.others, told)) {
            return false;
        }
        int least = 0;
        while (node.branches.containsKey(least)) {
            least++;
        }
        tellPart(node, least, told);
        return true;
    }

    private static void tellPart(Node node, int mark, Map<String, Told> told) {
        told.put(node.path, new Told(node.asked.shape, node.asked.sort, mark));
        Pattern beside = node.asking;
        for (int i = 0; i < node.path.length(); i++) {
            if (beside.shape == 4) {
                told.put(node.path.substring(0, i), new Told(4, beside.sort, 0));
                beside = beside.fields[node.path.charAt(i) - 1];
            } else {
                beside = beside.argument;
            }
        }
    }

    private boolean hasStep(Map<String, Told> told, String at, int step) {
        Told part = told.get(at);
        if (part == null) {
            return false;
        }
        switch (part.shape) {
            case 2:
                return step == 1 && takes(part.sort, part.mark);
            case 3:
                return step == 1 && hasArgumentInSomeRule(told, at);
            case 4:
                return step <= part.sort;
            default:
                return false;
        }
    }

    /** A rule has something "there" when it has at all parts above what the missing value has. */
    private boolean hasArgumentInSomeRule(Map<String, Told> told, String at) {
        for (Pattern rule : rules) {
            Pattern here = rule;
            for (int i = 0; i < at.length() && here != null; i++) {
                Told above = told.get(at.substring(0, i));
                boolean same = here.shape == above.shape && here.mark == above.mark;
                here = !same ? null : here.shape == 4 ? here.fields[at.charAt(i) - 1] : here.argument;
            }
            if (here != null && here.shape == 3 && here.mark == told.get(at).mark && here.argument != null) {
                return true;
            }
        }
        return false;
    }
}
