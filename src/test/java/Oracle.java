import java.util.ArrayDeque;
import java.util.ArrayList;
import java.util.HashMap;
import java.util.HashSet;
import java.util.IdentityHashMap;
import java.util.List;
import java.util.Map;
import java.util.Set;

/**
 * The document once more, written as plainly as it reads: by recursion and exceptions, with runs as objects.
 * It is what RandomTest compares Choicepoint with.
 */
final class Oracle {
    private static final int NONE = -1;

    private enum Tag { NAME, DATA, CALL, EITHER, SAME, UNLIKE, SOME }

    private record Node(Tag tag, int what, List<Node> parts) {
        int size() {
            int size = 1;
            for (Node part : parts) {
                size += part.size();
            }
            return size;
        }

        Set<Integer> names() {
            Set<Integer> names = new HashSet<>();
            if (tag == Tag.NAME) {
                names.add(what);
            }
            for (Node part : parts) {
                names.addAll(part.names());
            }
            return names;
        }
    }

    private record Rule(List<Node> patterns, Node right) {
    }

    private static final class Function {
        int parts;
        boolean isRigid;
        final List<Rule> rules = new ArrayList<>();
    }

    private static final class Thing {
        boolean isOpen;
        boolean isData;
        int kind;
        List<Thing> parts = List.of();
        Node unforced;
        Map<Integer, Thing> names;
        Thing became;
        Run owner;

        Thing last() {
            return became == null ? this : became.last();
        }
    }

    private static final class Run {
        final Run around;
        final List<Integer> given;
        final List<Integer> ways = new ArrayList<>();
        final List<Integer> limits = new ArrayList<>();
        final Map<Thing, Boolean> whole = new IdentityHashMap<>();

        Run(Run around, List<Integer> given) {
            this.around = around;
            this.given = given;
        }
    }

    private static final class Failed extends RuntimeException {
        private static final long serialVersionUID = 1;
        final transient Run run;

        Failed(Run run) {
            super(null, null, false, false);
            this.run = run;
        }
    }

    private static final class Ended extends RuntimeException {
        private static final long serialVersionUID = 1;
        final int outcome;
        final int ways;

        Ended(int outcome, int ways) {
            super(null, null, false, false);
            this.outcome = outcome;
            this.ways = ways;
        }
    }

    private record Value(List<Integer> parts, Map<Integer, List<Integer>> bounds, int steps, List<Integer> ways) {
    }

    private final List<Function> functions = new ArrayList<>();
    private final List<Node> nodes = new ArrayList<>();
    private Node goal;
    private int[] numbers = new int[6];
    private final List<Value> values = new ArrayList<>();

    // the run that is made
    private int steps;
    private int branches;
    private Thing root;
    private Map<Integer, Thing> goalNames;
    private Run top;

    // ---- programs

    int function(int parts, boolean isRigid) {
        if (parts < 0 || parts > 2) {
            throw new IllegalArgumentException();
        }
        if (functions.size() == 8) {
            throw new IllegalStateException();
        }
        Function function = new Function();
        function.parts = parts;
        function.isRigid = isRigid;
        functions.add(function);
        return functions.size() - 1;
    }

    private Node node(int number) {
        if (number < 0 || number >= nodes.size()) {
            throw new IndexOutOfBoundsException();
        }
        return nodes.get(number);
    }

    private List<Node> parts(int many, int a, int b) {
        List<Node> parts = new ArrayList<>();
        if (many > 0) {
            parts.add(node(a));
        }
        if (many > 1) {
            parts.add(node(b));
        }
        return parts;
    }

    private Function functionAt(int number) {
        if (number < 0 || number >= functions.size()) {
            throw new IndexOutOfBoundsException();
        }
        return functions.get(number);
    }

    private int tell(Tag tag, int what, List<Node> parts) {
        Node node = new Node(tag, what, parts);
        if (nodes.size() == 80 || node.size() > 12) {
            throw new IllegalStateException();
        }
        nodes.add(node);
        return nodes.size() - 1;
    }

    int name(int number) {
        if (number < 0 || number > 5) {
            throw new IllegalArgumentException();
        }
        return tell(Tag.NAME, number, List.of());
    }

    int data(int kind, int a, int b) {
        if (kind < 0 || kind > 5) {
            throw new IllegalArgumentException();
        }
        return tell(Tag.DATA, kind, parts(kind / 2, a, b));
    }

    int call(int function, int a, int b) {
        return tell(Tag.CALL, function, parts(functionAt(function).parts, a, b));
    }

    int either(int a, int b) {
        return tell(Tag.EITHER, 0, parts(2, a, b));
    }

    int same(int a, int b) {
        return tell(Tag.SAME, 0, parts(2, a, b));
    }

    int unlike(int a, int b) {
        return tell(Tag.UNLIKE, 0, parts(2, a, b));
    }

    int some(int a) {
        return tell(Tag.SOME, 0, parts(1, a, 0));
    }

    int drop() {
        int size = nodes.size();
        nodes.clear();
        return size;
    }

    private static boolean isPattern(Node node) {
        boolean is = node.tag == Tag.NAME || node.tag == Tag.DATA;
        for (Node part : node.parts) {
            is &= isPattern(part);
        }
        return is;
    }

    private static int nameCount(Node node) {
        int many = node.tag == Tag.NAME ? 1 : 0;
        for (Node part : node.parts) {
            many += nameCount(part);
        }
        return many;
    }

    private static Set<Integer> namesOf(List<Node> patterns) {
        Set<Integer> names = new HashSet<>();
        for (Node pattern : patterns) {
            names.addAll(pattern.names());
        }
        return names;
    }

    int rule(int function, int a, int b, int right) {
        Function its = functionAt(function);
        List<Node> patterns = parts(its.parts, a, b);
        Node rightSide = node(right);
        int many = 0;
        for (Node pattern : patterns) {
            if (!isPattern(pattern)) {
                throw new IllegalArgumentException();
            }
            many += nameCount(pattern);
        }
        if (namesOf(patterns).size() != many) {
            throw new IllegalArgumentException();
        }
        int rules = 0;
        for (Function each : functions) {
            rules += each.rules.size();
        }
        if (rules == 24) {
            throw new IllegalStateException();
        }
        its.rules.add(new Rule(patterns, rightSide));
        return its.rules.size() - 1;
    }

    int unrule(int function) {
        Function its = functionAt(function);
        if (its.rules.isEmpty()) {
            throw new IllegalStateException();
        }
        its.rules.remove(its.rules.size() - 1);
        return its.rules.size();
    }

    private static boolean meet(Node a, Node b) {
        if (a.tag == Tag.NAME || b.tag == Tag.NAME) {
            return true;
        }
        if (a.what != b.what) {
            return false;
        }
        return meet(a.parts, b.parts);
    }

    private static boolean meet(List<Node> a, List<Node> b) {
        for (int at = 0; at < a.size(); at++) {
            if (!meet(a.get(at), b.get(at))) {
                return false;
            }
        }
        return true;
    }

    private boolean hasMany(Node node, Set<Integer> named, Set<Integer> many) {
        if (node.tag == Tag.SOME) {
            return false;
        }
        if (node.tag == Tag.EITHER || node.tag == Tag.NAME && !named.contains(node.what)
                || node.tag == Tag.CALL && many.contains(node.what)) {
            return true;
        }
        for (Node part : node.parts) {
            if (hasMany(part, named, many)) {
                return true;
            }
        }
        return false;
    }

    private boolean canBeMany(Function function, Set<Integer> many) {
        for (int at = 0; at < function.rules.size(); at++) {
            Rule rule = function.rules.get(at);
            if (hasMany(rule.right, namesOf(rule.patterns), many)) {
                return true;
            }
            for (int other = at + 1; other < function.rules.size(); other++) {
                if (meet(rule.patterns, function.rules.get(other).patterns)) {
                    return true;
                }
            }
        }
        return false;
    }

    int many() {
        Set<Integer> many = new HashSet<>();
        boolean isNew = true;
        while (isNew) {
            isNew = false;
            for (int at = 0; at < functions.size(); at++) {
                isNew |= canBeMany(functions.get(at), many) && many.add(at);
            }
        }
        int bits = 0;
        for (int function : many) {
            bits |= 1 << function;
        }
        return bits;
    }

    int goal(int node) {
        goal = node(node);
        values.clear();
        return goal.size();
    }

    // ---- searches

    int search(int order, int seed) {
        if (order < 0 || order > 2) {
            throw new IllegalArgumentException();
        }
        if (goal == null) {
            throw new IllegalStateException();
        }
        values.clear();
        numbers = new int[6];
        List<List<Integer>> row = new ArrayList<>();
        row.add(List.of());
        int state = seed;
        while (!row.isEmpty() && numbers[4] < 200) {
            List<Integer> taken;
            if (order == 0) {
                taken = row.remove(row.size() - 1);
            } else if (order == 1) {
                taken = row.remove(0);
            } else {
                state = state * 1103515245 + 12345;
                taken = row.remove(((state >>> 16) & 65535) % row.size());
            }
            numbers[4]++;
            int outcome = run(taken);
            if (outcome == 4) {
                for (int at = 0; at < branches; at++) {
                    List<Integer> more = new ArrayList<>(taken);
                    more.add(order == 0 ? branches - 1 - at : at);
                    row.add(more);
                }
            } else {
                numbers[outcome]++;
                if (outcome == 0 && values.size() < 10) {
                    keep();
                }
            }
        }
        numbers[5] = row.isEmpty() ? 1 : 0;
        return numbers[0];
    }

    private void keep() {
        Map<Integer, List<Integer>> bounds = new HashMap<>();
        for (Map.Entry<Integer, Thing> name : goalNames.entrySet()) {
            bounds.put(name.getKey(), told(name.getValue()));
        }
        values.add(new Value(told(root), bounds, steps, List.copyOf(top.ways)));
    }

    /** Things may be shared so often that they can't be told to their end: what is ahead is kept apart. */
    private static List<Integer> told(Thing first) {
        List<Integer> row = new ArrayList<>();
        List<Thing> opens = new ArrayList<>();
        ArrayDeque<Thing> ahead = new ArrayDeque<>();
        ahead.push(first);
        while (!ahead.isEmpty() && row.size() < 40) {
            Thing thing = ahead.pop().last();
            if (thing.isOpen) {
                if (!opens.contains(thing)) {
                    opens.add(thing);
                }
                row.add(10 + opens.indexOf(thing));
            } else {
                row.add(thing.kind);
                for (int at = thing.parts.size() - 1; at >= 0; at--) {
                    ahead.push(thing.parts.get(at));
                }
            }
        }
        return row;
    }

    int count(int what) {
        if (what < 0 || what > 5) {
            throw new IllegalArgumentException();
        }
        return numbers[what];
    }

    private Value valueAt(int value, int place) {
        if (value < 0 || value >= values.size() || place < 0) {
            throw new IndexOutOfBoundsException();
        }
        return values.get(value);
    }

    private static int at(List<Integer> row, int place) {
        return row == null || place >= row.size() ? NONE : row.get(place);
    }

    int part(int value, int place) {
        return at(valueAt(value, place).parts, place);
    }

    int bound(int value, int name, int place) {
        if (name < 0 || name > 5) {
            throw new IndexOutOfBoundsException();
        }
        return at(valueAt(value, place).bounds.get(name), place);
    }

    int steps(int value) {
        return valueAt(value, 0).steps;
    }

    int fate(int value, int place) {
        return at(valueAt(value, place).ways, place);
    }

    int within(int decisions) {
        if (decisions < 0 || decisions > 10) {
            throw new IllegalArgumentException();
        }
        if (goal == null) {
            throw new IllegalStateException();
        }
        List<List<Integer>> row = new ArrayList<>();
        row.add(List.of());
        int found = 0;
        for (int at = 0; at < row.size(); at++) {
            if (at + 1 >= 600) {
                return NONE;
            }
            List<Integer> given = row.get(at);
            int outcome = run(given);
            found += outcome == 0 ? 1 : 0;
            for (int way = 0; outcome == 4 && given.size() < decisions && way < branches; way++) {
                List<Integer> more = new ArrayList<>(given);
                more.add(way);
                row.add(more);
            }
        }
        return found;
    }

    // ---- runs

    /** Returns 0 for a value, 1 failed, 2 floated, 3 cut, 4 branched. */
    private int run(List<Integer> given) {
        steps = 0;
        top = new Run(null, given);
        goalNames = new HashMap<>();
        try {
            for (int name : goal.names()) {
                goalNames.put(name, open(top));
            }
            root = make(goal, goalNames, top);
            whole(root, top);
            return 0;
        } catch (Failed failed) {
            if (failed.run != top) {
                throw new AssertionError("a failure of no run that goes on");
            }
            return 1;
        } catch (Ended ended) {
            branches = ended.ways;
            return ended.outcome;
        }
    }

    private void step() {
        if (steps == 100) {
            throw new Ended(3, 0);
        }
        steps++;
    }

    private static int decide(Run run, int ways) {
        int at = run.ways.size();
        if (at == 40) {
            throw new Ended(3, 0);
        }
        if (at >= run.given.size() && run.around == null) {
            throw new Ended(4, ways);
        }
        int way = at < run.given.size() ? run.given.get(at) : 0;
        run.ways.add(way);
        run.limits.add(ways);
        return way;
    }

    private static Thing open(Run owner) {
        Thing thing = new Thing();
        thing.isOpen = true;
        thing.owner = owner;
        return thing;
    }

    private static Thing make(Node node, Map<Integer, Thing> names, Run owner) {
        if (node.tag == Tag.NAME) {
            return names.get(node.what);
        }
        Thing thing = new Thing();
        thing.owner = owner;
        thing.names = names;
        if (node.tag != Tag.SOME) {
            thing.parts = new ArrayList<>();
            for (Node part : node.parts) {
                thing.parts.add(make(part, names, owner));
            }
        }
        if (node.tag == Tag.DATA) {
            thing.isData = true;
            thing.kind = node.what;
        } else {
            thing.unforced = node;
        }
        return thing;
    }

    private static void becomeData(Thing thing, int kind, List<Thing> parts) {
        thing.isOpen = false;
        thing.unforced = null;
        thing.isData = true;
        thing.kind = kind;
        thing.parts = parts;
    }

    private void whole(Thing any, Run run) {
        force(any.last(), run);
        Thing thing = any.last();
        if (thing.isData && run.whole.put(thing, true) == null) {
            for (Thing part : thing.parts) {
                whole(part, run);
            }
        }
    }

    private void force(Thing thing, Run run) {
        if (thing.isOpen || thing.isData) {
            return;
        }
        switch (thing.unforced.tag) {
            case CALL -> call(thing, run);
            case EITHER -> {
                thing.became = thing.parts.get(decide(thing.owner, 2));
                force(thing.last(), run);
            }
            case SAME -> {
                whole(thing.parts.get(0), run);
                whole(thing.parts.get(1), run);
                unite(thing.parts.get(0), thing.parts.get(1), thing.owner);
                becomeData(thing, 1, List.of());
            }
            case UNLIKE -> {
                whole(thing.parts.get(0), run);
                whole(thing.parts.get(1), run);
                if (same(thing.parts.get(0), thing.parts.get(1))) {
                    throw new Failed(thing.owner);
                }
                becomeData(thing, 1, List.of());
            }
            case SOME -> becomeData(thing, find(thing, run), List.of());
            default -> throw new AssertionError();
        }
    }

    private void call(Thing call, Run run) {
        Function function = functions.get(call.unforced.what);
        List<Rule> rules = function.rules;
        if (rules.isEmpty()) {
            throw new Failed(call.owner);
        }
        Rule rule = rules.get(rules.size() > 1 ? decide(call.owner, rules.size()) : 0);
        step();
        Map<Integer, Thing> names = new HashMap<>();
        for (int at = 0; at < rule.patterns.size(); at++) {
            match(rule.patterns.get(at), call.parts.get(at), names, call.owner, function.isRigid, run);
        }
        for (int name : rule.right.names()) {
            if (!names.containsKey(name)) {
                names.put(name, open(call.owner));
            }
        }
        call.became = make(rule.right, names, call.owner);
        force(call.last(), run);
    }

    private void match(Node pattern, Thing any, Map<Integer, Thing> names, Run owner, boolean isRigid, Run run) {
        if (pattern.tag == Tag.NAME) {
            names.put(pattern.what, any);
            return;
        }
        force(any.last(), run);
        Thing thing = any.last();
        if (thing.isOpen) {
            if (isRigid || thing.owner != owner) {
                throw new Ended(2, 0);
            }
            List<Thing> parts = new ArrayList<>();
            for (int at = 0; at < pattern.parts.size(); at++) {
                parts.add(open(owner));
            }
            becomeData(thing, pattern.what, parts);
        } else if (thing.kind != pattern.what) {
            throw new Failed(owner);
        }
        for (int at = 0; at < pattern.parts.size(); at++) {
            match(pattern.parts.get(at), thing.parts.get(at), names, owner, isRigid, run);
        }
    }

    private void unite(Thing anyFirst, Thing anySecond, Run owner) {
        Thing first = anyFirst.last();
        Thing second = anySecond.last();
        if (first == second) {
            return;
        }
        step();
        if (first.isOpen && second.isOpen) {
            if (first.owner == owner) {
                first.became = second;
            } else if (second.owner == owner) {
                second.became = first;
            } else {
                throw new Ended(2, 0);
            }
        } else if (first.isOpen || second.isOpen) {
            Thing open = first.isOpen ? first : second;
            Thing other = first.isOpen ? second : first;
            if (isIn(open, other, new IdentityHashMap<>())) {
                throw new Failed(owner);
            }
            if (open.owner != owner) {
                throw new Ended(2, 0);
            }
            open.became = other;
        } else {
            if (first.kind != second.kind) {
                throw new Failed(owner);
            }
            for (int at = 0; at < first.parts.size(); at++) {
                unite(first.parts.get(at), second.parts.get(at), owner);
            }
        }
    }

    private static boolean isIn(Thing open, Thing any, Map<Thing, Boolean> seen) {
        Thing thing = any.last();
        if (thing == open) {
            return true;
        }
        if (seen.put(thing, true) == null) {
            for (Thing part : thing.parts) {
                if (isIn(open, part, seen)) {
                    return true;
                }
            }
        }
        return false;
    }

    private boolean same(Thing anyFirst, Thing anySecond) {
        Thing first = anyFirst.last();
        Thing second = anySecond.last();
        if (first == second) {
            return true;
        }
        if (first.isOpen || second.isOpen) {
            throw new Ended(2, 0);
        }
        step();
        if (first.kind != second.kind) {
            return false;
        }
        for (int at = 0; at < first.parts.size(); at++) {
            if (!same(first.parts.get(at), second.parts.get(at))) {
                return false;
            }
        }
        return true;
    }

    private int find(Thing some, Run around) {
        List<Integer> given = new ArrayList<>();
        for (int runs = 0; ; runs++) {
            if (runs == 20) {
                throw new Ended(3, 0);
            }
            Run run = new Run(around, given);
            try {
                step();
                whole(make(some.unforced.parts.get(0), some.names, run), run);
                return 1;
            } catch (Failed failed) {
                if (failed.run != run) {
                    throw failed;
                }
            }
            int last = run.ways.size() - 1;
            while (last >= 0 && run.ways.get(last) + 1 >= run.limits.get(last)) {
                last--;
            }
            if (last < 0) {
                return 0;
            }
            given = new ArrayList<>(run.ways.subList(0, last + 1));
            given.set(last, given.get(last) + 1);
        }
    }
}
