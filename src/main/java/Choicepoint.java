/**
 * Functional logic: programs of data and overlapping rules are told as nodes, and the values of a goal
 * are searched over the tree of its decisions. What each call does is said in DOC.md, promise by promise.
 */
public final class Choicepoint {
    public static final int NONE = -1;
    public static final int DEPTH = 0, BREADTH = 1, DRAWN = 2;

    // What a node or a thing is: NAME is of nodes alone, OPEN and BECOME (another thing) of things alone.
    private static final int NAME = 0, DATA = 1, CALL = 2, EITHER = 3, SAME = 4, UNLIKE = 5, SOME = 6;
    private static final int OPEN = 7, BECOME = 8;

    // What is left to do in a run.
    private static final int FORCE = 0, WHOLE = 1, MATCH = 2, APPLY = 3, UNITE = 4, UNITED = 5, ASK = 6;
    private static final int ASKED = 7, RUN_START = 8, RUN_END = 9;

    // How a run ended; the first four are places of the numbers of a search, too.
    private static final int VALUE = 0, FAILED = 1, FLOATED = 2, CUT = 3, BRANCHED = 4, GOING = 5;
    private static final int ALL_RUNS = 4, IS_EMPTY = 5, NUMBERS = 6;

    private static final int KINDS = 6, NAMES = 6, MOST_PARTS = 2;
    private static final int MOST_FUNCTIONS = 8, MOST_RULES = 24, MOST_NODES = 80, MOST_IN_ONE = 12;
    private static final int MOST_STEPS = 100, MOST_DECISIONS = 40, MOST_RUNS_WITHIN = 20;
    private static final int MOST_RUNS = 200, MOST_KEPT = 10, MOST_TOLD = 40, FIRST_OPEN = 10;
    private static final int MOST_GIVEN = 10, TOO_MANY_RUNS = 600;

    // Each scope but the goal's, and each level but the lowest one, costs a step.
    private static final int MOST_SCOPES = MOST_STEPS + 2, MOST_LEVELS = MOST_STEPS + 2;
    // A step makes 12 things by a right side and 22 by patterns at most, and the goal 12.
    private static final int MOST_THINGS = 3500;
    // Above what 100 steps can leave undone, some 30 tasks each; a run that came near would be cut.
    private static final int MOST_TASKS = 5000, MOST_TURNS = 4000000;
    // One task makes fewer things, and leaves fewer tasks, than this.
    private static final int SPARE = 20;
    // Each run branches into as many ways as there are rules at most.
    private static final int MOST_ROWS = 1 + MOST_RUNS * MOST_RULES;

    private final Nodes nodes = new Nodes();
    private final Program program = new Program();
    private final Machine machine = new Machine(program);
    private final Searches searches = new Searches(machine);
    private Expression aim = null;

    public Choicepoint() {
    }

    // ---- programs

    public int function(int parts, boolean isRigid) throws IllegalArgumentException, IllegalStateException {
        if (parts < 0 || parts > MOST_PARTS) {
            throw new IllegalArgumentException("parts are 0 to 2");
        }
        if (program.functions >= MOST_FUNCTIONS) {
            throw new IllegalStateException("there are 8 functions");
        }
        return program.addFunction(parts, isRigid);
    }

    public int name(int number) throws IllegalArgumentException, IllegalStateException {
        if (number < 0 || number >= NAMES) {
            throw new IllegalArgumentException("names are 0 to 5");
        }
        return tell(NAME, number, NONE, NONE);
    }

    public int data(int kind, int a, int b)
            throws IndexOutOfBoundsException, IllegalArgumentException, IllegalStateException {
        boolean isKind = kind >= 0 && kind < KINDS;
        int parts = isKind ? partsOfKind(kind) : 0;
        needParts(parts, a, b);
        if (!isKind) {
            throw new IllegalArgumentException("kinds are 0 to 5");
        }
        return tell(DATA, kind, parts > 0 ? a : NONE, parts > 1 ? b : NONE);
    }

    public int call(int function, int a, int b) throws IndexOutOfBoundsException, IllegalStateException {
        needFunction(function);
        int parts = program.partsOf(function);
        needParts(parts, a, b);
        return tell(CALL, function, parts > 0 ? a : NONE, parts > 1 ? b : NONE);
    }

    public int either(int a, int b) throws IndexOutOfBoundsException, IllegalStateException {
        needParts(2, a, b);
        return tell(EITHER, 0, a, b);
    }

    public int same(int a, int b) throws IndexOutOfBoundsException, IllegalStateException {
        needParts(2, a, b);
        return tell(SAME, 0, a, b);
    }

    public int unlike(int a, int b) throws IndexOutOfBoundsException, IllegalStateException {
        needParts(2, a, b);
        return tell(UNLIKE, 0, a, b);
    }

    public int some(int a) throws IndexOutOfBoundsException, IllegalStateException {
        needParts(1, a, NONE);
        return tell(SOME, 0, a, NONE);
    }

    public int drop() {
        int dropped = nodes.told;
        nodes.told = 0;
        return dropped;
    }

    public int rule(int function, int a, int b, int right)
            throws IndexOutOfBoundsException, IllegalArgumentException, IllegalStateException {
        needFunction(function);
        int parts = program.partsOf(function);
        needParts(parts, a, b);
        needParts(1, right, NONE);
        Rule added = new Rule(parts > 0 ? new Expression(nodes, a) : null,
                parts > 1 ? new Expression(nodes, b) : null, new Expression(nodes, right));
        if (!added.isLeftSide) {
            throw new IllegalArgumentException("a pattern is of names and data, each name once");
        }
        if (program.rules >= MOST_RULES) {
            throw new IllegalStateException("there are 24 rules");
        }
        return program.addRule(function, added);
    }

    public int unrule(int function) throws IndexOutOfBoundsException, IllegalStateException {
        needFunction(function);
        if (program.rulesOf(function) == 0) {
            throw new IllegalStateException("the function has no rules");
        }
        return program.takeLastRule(function);
    }

    public int many() {
        return program.findMany();
    }

    public int goal(int node) throws IndexOutOfBoundsException {
        needParts(1, node, NONE);
        aim = new Expression(nodes, node);
        searches.kept = 0;
        return aim.size;
    }

    // ---- searches

    public int search(int order, int seed) throws IllegalArgumentException, IllegalStateException {
        if (order < DEPTH || order > DRAWN) {
            throw new IllegalArgumentException("orders are DEPTH to DRAWN");
        }
        if (aim == null) {
            throw new IllegalStateException("there is no goal");
        }
        return searches.make(aim, order, seed);
    }

    public int count(int what) throws IllegalArgumentException {
        if (what < 0 || what >= NUMBERS) {
            throw new IllegalArgumentException("numbers are 0 to 5");
        }
        return searches.numbers[what];
    }

    public int part(int value, int place) throws IndexOutOfBoundsException {
        needPlace(value, place);
        return numberAt(searches.found[value].parts, place);
    }

    public int bound(int value, int name, int place) throws IndexOutOfBoundsException {
        needPlace(value, place);
        if (name < 0 || name >= NAMES) {
            throw new IndexOutOfBoundsException("no such name");
        }
        return numberAt(searches.found[value].bounds[name], place);
    }

    public int steps(int value) throws IndexOutOfBoundsException {
        needPlace(value, 0);
        return searches.found[value].steps;
    }

    public int fate(int value, int place) throws IndexOutOfBoundsException {
        needPlace(value, place);
        return numberAt(searches.found[value].ways, place);
    }

    public int within(int decisions) throws IllegalArgumentException, IllegalStateException {
        if (decisions < 0 || decisions > MOST_GIVEN) {
            throw new IllegalArgumentException("decisions are 0 to 10");
        }
        if (aim == null) {
            throw new IllegalStateException("there is no goal");
        }
        return searches.countWithin(aim, decisions);
    }

    // ---- what the calls ask ahead

    private void needFunction(int function) {
        if (function < 0 || function >= program.functions) {
            throw new IndexOutOfBoundsException("no such function");
        }
    }

    /** Asks for the nodes of as many parts as matter. */
    private void needParts(int parts, int a, int b) {
        if (parts > 0 && !nodes.has(a) || parts > 1 && !nodes.has(b)) {
            throw new IndexOutOfBoundsException("no such node");
        }
    }

    private void needPlace(int value, int place) {
        if (value < 0 || value >= searches.kept) {
            throw new IndexOutOfBoundsException("no such value");
        }
        if (place < 0) {
            throw new IndexOutOfBoundsException("no such place");
        }
    }

    private int tell(int tag, int what, int left, int right) {
        if (!nodes.hasRoom(left, right)) {
            throw new IllegalStateException("80 nodes, and 12 in an expression, are the most");
        }
        return nodes.add(tag, what, left, right);
    }

    private static int numberAt(int[] row, int place) {
        return place >= 0 && place < row.length ? row[place] : NONE;
    }

    private static int partsOfKind(int kind) {
        return kind >> 1;
    }

    // ---- the classes inside

    /** The nodes that were told since the last drop. */
    private static final class Nodes {
        private final int[] tags = new int[MOST_NODES];
        private final int[] whats = new int[MOST_NODES];
        private final int[] lefts = new int[MOST_NODES];
        private final int[] rights = new int[MOST_NODES];
        private final int[] sizes = new int[MOST_NODES];
        private int told = 0;

        private boolean has(int node) {
            return node >= 0 && node < told;
        }

        private int sizeOf(int node) {
            return has(node) ? sizes[node] : 0;
        }

        private boolean hasRoom(int left, int right) {
            return told < MOST_NODES && 1 + sizeOf(left) + sizeOf(right) <= MOST_IN_ONE;
        }

        /** Adds a node, for which there is room. */
        private int add(int tag, int what, int left, int right) {
            int node = told;
            tags[node] = tag;
            whats[node] = what;
            lefts[node] = left;
            rights[node] = right;
            sizes[node] = 1 + sizeOf(left) + sizeOf(right);
            told = node + 1;
            return node;
        }
    }

    /**
     * An expression apart from the nodes, so that it outlives a drop. Each node stands behind its parts, a
     * part in front of each node that has it; thus the nodes of a part are in one piece, and the root is last.
     */
    private static final class Expression {
        private final int size;
        private final int[] tags;
        private final int[] whats;
        private final int[] lefts;
        private final int[] rights;
        /** Where the piece of each node begins. */
        private final int[] firsts;
        /** Within how many SOMEs each node is. */
        private final int[] layers;

        private Expression(Nodes nodes, int root) {
            size = nodes.sizeOf(root);
            tags = new int[size];
            whats = new int[size];
            lefts = new int[size];
            rights = new int[size];
            firsts = new int[size];
            layers = new int[size];
            int[] sources = new int[size];
            if (size > 0) {
                sources[size - 1] = root;
            }
            for (int at = size - 1; at >= 0; at--) {
                int node = sources[at];
                tags[at] = nodes.tags[node];
                whats[at] = nodes.whats[node];
                firsts[at] = at + 1 - nodes.sizes[node];
                int layer = tags[at] == SOME ? layers[at] + 1 : layers[at];
                int rightSize = nodes.sizeOf(nodes.rights[node]);
                rights[at] = rightSize > 0 ? at - 1 : NONE;
                lefts[at] = nodes.sizeOf(nodes.lefts[node]) > 0 ? at - 1 - rightSize : NONE;
                if (rights[at] >= 0) {
                    sources[rights[at]] = nodes.rights[node];
                    layers[rights[at]] = layer;
                }
                if (lefts[at] >= 0) {
                    sources[lefts[at]] = nodes.lefts[node];
                    layers[lefts[at]] = layer;
                }
            }
        }

        /** Whether this pattern can meet another one, both walked from their roots to the front. */
        private boolean meets(Expression other) {
            int mine = size - 1;
            int its = other.size - 1;
            for (int turn = 0; turn < MOST_IN_ONE && mine >= 0 && its >= 0; turn++) {
                if (tags[mine] == NAME || other.tags[its] == NAME) {
                    mine = firsts[mine] - 1;
                    its = other.firsts[its] - 1;
                } else if (whats[mine] != other.whats[its]) {
                    return false;
                } else {
                    mine--;
                    its--;
                }
            }
            return true;
        }

        /** Whether a right side with these names in its patterns makes its function one that can be many. */
        private boolean isMany(int namesOfPatterns, int manyFunctions) {
            for (int at = 0; at < size; at++) {
                if (layers[at] == 0 && (tags[at] == EITHER
                        || tags[at] == NAME && (namesOfPatterns >> whats[at] & 1) == 0
                        || tags[at] == CALL && (manyFunctions >> whats[at] & 1) != 0)) {
                    return true;
                }
            }
            return false;
        }
    }

    /** A rule; a pattern that its function has no part for is null. */
    private static final class Rule {
        private final Expression first;
        private final Expression second;
        private final Expression right;
        /** The names in the patterns, as a set of bits. */
        private final int names;
        /** Whether the patterns are patterns, and no name is twice in them. */
        private final boolean isLeftSide;

        private Rule(Expression first, Expression second, Expression right) {
            this.first = first;
            this.second = second;
            this.right = right;
            int named = addNames(first, 0);
            named = addNames(second, named);
            names = named;
            isLeftSide = named >= 0;
        }

        /** Returns the set with the names of a pattern added; below 0 if that is none, or a name is there. */
        private static int addNames(Expression pattern, int names) {
            int all = names;
            int size = pattern == null ? 0 : pattern.size;
            for (int at = 0; at < size && all >= 0; at++) {
                if (pattern.tags[at] == NAME && (all >> pattern.whats[at] & 1) == 0) {
                    all = all | 1 << pattern.whats[at];
                } else if (pattern.tags[at] != DATA) {
                    all = NONE;
                }
            }
            return all;
        }

        private boolean meets(Rule other) {
            return (first == null || other.first == null || first.meets(other.first))
                    && (second == null || other.second == null || second.meets(other.second));
        }
    }

    /** The functions with their rules. */
    private static final class Program {
        private final int[] parts = new int[MOST_FUNCTIONS];
        private final boolean[] areRigid = new boolean[MOST_FUNCTIONS];
        private final int[] ruleCounts = new int[MOST_FUNCTIONS];
        /** For each function there are as many places as there can be rules at all. */
        private final Rule[] rulePlaces = new Rule[MOST_FUNCTIONS * MOST_RULES];
        private int functions = 0;
        private int rules = 0;

        /** Adds a function, for which there is room. */
        private int addFunction(int itsParts, boolean isRigid) {
            int function = functions;
            parts[function] = itsParts;
            areRigid[function] = isRigid;
            functions = function + 1;
            return function;
        }

        private int partsOf(int function) {
            return function >= 0 && function < functions ? parts[function] : 0;
        }

        private int rulesOf(int function) {
            return function >= 0 && function < functions ? ruleCounts[function] : 0;
        }

        private Rule ruleOf(int function, int place) {
            return place >= 0 && place < rulesOf(function) ? rulePlaces[function * MOST_RULES + place] : null;
        }

        /** Adds a rule, for which there is room, to a function that is there. */
        private int addRule(int function, Rule rule) {
            int place = ruleCounts[function];
            rulePlaces[function * MOST_RULES + place] = rule;
            ruleCounts[function] = place + 1;
            rules++;
            return place;
        }

        /** Takes the last rule of a function that has one. */
        private int takeLastRule(int function) {
            int place = ruleCounts[function] - 1;
            rulePlaces[function * MOST_RULES + place] = null;
            ruleCounts[function] = place;
            rules--;
            return place;
        }

        /** Each round finds one more function at least, or none further are to be found. */
        private int findMany() {
            int found = 0;
            for (int round = 0; round < functions; round++) {
                for (int function = 0; function < functions; function++) {
                    if (isMany(function, found)) {
                        found = found | 1 << function;
                    }
                }
            }
            return found;
        }

        private boolean isMany(int function, int found) {
            for (int place = 0; place < ruleCounts[function]; place++) {
                Rule rule = ruleOf(function, place);
                if (rule != null && (rule.right.isMany(rule.names, found) || meetsEarlier(function, place, rule))) {
                    return true;
                }
            }
            return false;
        }

        private boolean meetsEarlier(int function, int place, Rule rule) {
            for (int earlier = 0; earlier < place; earlier++) {
                Rule other = ruleOf(function, earlier);
                if (other != null && rule.meets(other)) {
                    return true;
                }
            }
            return false;
        }
    }

    /** The things of a run. What they are is in rows that every run uses again. */
    private static final class Things {
        private final int[] tags = new int[MOST_THINGS];
        /** The kind of data, the function of a call, the place of the expression that a SOME keeps. */
        private final int[] whats = new int[MOST_THINGS];
        /** The first part; of what has become another thing, that one. */
        private final int[] lefts = new int[MOST_THINGS];
        private final int[] rights = new int[MOST_THINGS];
        /** What names stand for: of a SOME, and of a call since its rule is told. */
        private final int[] scopes = new int[MOST_THINGS];
        /** The level of the run to which each belongs. */
        private final int[] owners = new int[MOST_THINGS];
        /** The number of the run that made it whole last. */
        private final int[] wholes = new int[MOST_THINGS];
        /** The number of the look through data that came by last. */
        private final int[] looks = new int[MOST_THINGS];
        private final int[] queue = new int[MOST_THINGS];
        private int size = 0;
        private int look = 0;

        private int add(int tag, int what, int left, int right, int scope, int owner) {
            int thing = size < MOST_THINGS ? size : MOST_THINGS - 1;
            tags[thing] = tag;
            whats[thing] = what;
            lefts[thing] = left;
            rights[thing] = right;
            scopes[thing] = scope;
            owners[thing] = owner;
            wholes[thing] = 0;
            looks[thing] = 0;
            size = thing + 1;
            return thing;
        }

        private int addOpen(int owner) {
            return add(OPEN, 0, NONE, NONE, 0, owner);
        }

        /** Returns what a thing has become at last. */
        private int find(int thing) {
            int last = thing;
            for (int turn = 0; turn < MOST_THINGS && tags[last] == BECOME; turn++) {
                last = lefts[last];
            }
            return last;
        }

        private void become(int thing, int other) {
            tags[thing] = BECOME;
            lefts[thing] = other;
        }

        private void becomeData(int thing, int kind, int left, int right) {
            tags[thing] = DATA;
            whats[thing] = kind;
            lefts[thing] = left;
            rights[thing] = right;
        }

        /** Whether an open thing is in another one, that is whole. */
        private boolean isIn(int open, int other) {
            look++;
            int end = enqueue(find(other), 0);
            for (int at = 0; at < end && at < MOST_THINGS; at++) {
                int thing = queue[at];
                if (thing == open) {
                    return true;
                }
                if (tags[thing] == DATA) {
                    int parts = partsOfKind(whats[thing]);
                    end = parts > 0 ? enqueue(find(lefts[thing]), end) : end;
                    end = parts > 1 ? enqueue(find(rights[thing]), end) : end;
                }
            }
            return false;
        }

        /** Puts a thing at the end of the queue, but once in a look, as things may be shared very often. */
        private int enqueue(int thing, int end) {
            if (looks[thing] == look || end >= MOST_THINGS) {
                return end;
            }
            looks[thing] = look;
            queue[end] = thing;
            return end + 1;
        }
    }

    /** What is left to do in a run, the next one last: depth of things must not be depth of calls. */
    private static final class Tasks {
        private final int[] acts = new int[MOST_TASKS];
        private final int[] firsts = new int[MOST_TASKS];
        private final int[] seconds = new int[MOST_TASKS];
        private final int[] thirds = new int[MOST_TASKS];
        private int size = 0;

        private void push(int act, int first, int second, int third) {
            if (size < MOST_TASKS) {
                acts[size] = act;
                firsts[size] = first;
                seconds[size] = second;
                thirds[size] = third;
                size++;
            }
        }

        private void push(int act, int thing) {
            push(act, thing, NONE, NONE);
        }
    }

    /** What the names of a goal, or of a rule where it is used, stand for. */
    private static final class Scope {
        private final int[] stands = new int[NAMES];
        private Expression first = null;
        private Expression second = null;
        private Expression text = null;

        private void open(Expression itsFirst, Expression itsSecond, Expression itsText) {
            first = itsFirst;
            second = itsSecond;
            text = itsText;
            for (int name = 0; name < NAMES; name++) {
                stands[name] = NONE;
            }
        }
    }

    /** A run that is going on: the lowest level is that of a search, the others are within the one below. */
    private static final class Level {
        private final int[] ways = new int[MOST_DECISIONS];
        /** How many ways each decision has. */
        private final int[] limits = new int[MOST_DECISIONS];
        private int given = 0;
        private int decisions = 0;
        /** Tells this run from all others of the same search's run. */
        private int number = 0;
        /** The SOME that is found, how many runs it took, and the tasks that are below them. */
        private int sought = NONE;
        private int runs = 0;
        private int base = 0;

        /** Goes on to the next way of the last decision that has one; false if none has. */
        private boolean advance() {
            for (int at = decisions - 1; at >= 0; at--) {
                if (ways[at] + 1 < limits[at]) {
                    ways[at]++;
                    given = at + 1;
                    return true;
                }
            }
            return false;
        }

        /** Gives the first way of one decision more. */
        private void deepen() {
            if (given < MOST_DECISIONS) {
                ways[given] = 0;
                given++;
            }
        }
    }

    /** Makes runs. */
    private static final class Machine {
        private final Program program;
        private final Things things = new Things();
        private final Tasks tasks = new Tasks();
        private final Scope[] scopes = new Scope[MOST_SCOPES];
        private final Level[] levels = new Level[MOST_LEVELS];
        private final int[] made = new int[MOST_IN_ONE];
        private final Level lowest;
        private int root = 0;
        private int scopeCount = 0;
        private int level = 0;
        private int runNumber = 0;
        private int steps = 0;
        private int outcome = GOING;
        private int branches = 0;

        private Machine(Program program) {
            this.program = program;
            for (int at = 0; at < MOST_SCOPES; at++) {
                scopes[at] = new Scope();
            }
            for (int at = 0; at < MOST_LEVELS; at++) {
                levels[at] = new Level();
            }
            lowest = levels[0];
        }

        /** Makes the run of a goal with the ways that are given at the lowest level; returns how it ended. */
        private int makeRun(Expression goal) {
            clear();
            int scope = openScope(null, null, goal);
            openNames(scope, 0);
            root = makeThings(goal, goal.size - 1, scope, 0);
            tasks.push(WHOLE, root);
            for (int turn = 0; turn < MOST_TURNS && outcome == GOING; turn++) {
                if (tasks.size == 0) {
                    outcome = VALUE;
                } else if (tasks.size > MOST_TASKS - SPARE || things.size > MOST_THINGS - SPARE) {
                    outcome = CUT;
                } else {
                    doNext();
                }
            }
            if (outcome == GOING) {
                outcome = CUT;
            }
            return outcome;
        }

        private void clear() {
            things.size = 0;
            things.look = 0;
            tasks.size = 0;
            scopeCount = 0;
            level = 0;
            runNumber = 1;
            steps = 0;
            outcome = GOING;
            branches = 0;
            lowest.decisions = 0;
            lowest.number = 1;
        }

        private void doNext() {
            int at = tasks.size - 1;
            tasks.size = at;
            int first = tasks.firsts[at];
            int second = tasks.seconds[at];
            int third = tasks.thirds[at];
            switch (tasks.acts[at]) {
                case FORCE:
                    force(things.find(first));
                    break;
                case WHOLE:
                    makeWhole(things.find(first));
                    break;
                case MATCH:
                    match(first, second, third);
                    break;
                case APPLY:
                    applyRule(first);
                    break;
                case UNITE:
                    unite(things.find(first), things.find(second), things.owners[third], third);
                    break;
                case UNITED:
                    things.becomeData(first, 1, NONE, NONE);
                    break;
                case ASK:
                    ask(things.find(first), things.find(second), third);
                    break;
                case ASKED:
                    // All that was asked is the same.
                    fail(things.owners[first]);
                    break;
                case RUN_START:
                    startRunWithin(levels[level]);
                    break;
                default:
                    endRunWithin();
                    break;
            }
        }

        // ---- steps, decisions and failures

        private boolean doStep() {
            if (steps >= MOST_STEPS) {
                outcome = CUT;
                return false;
            }
            steps++;
            return true;
        }

        /** Returns the way of the next decision of a run; NONE if that ends, all others with it. */
        private int decide(int owner, int ways) {
            Level run = levels[owner];
            int at = run.decisions;
            if (at >= MOST_DECISIONS) {
                outcome = CUT;
                return NONE;
            }
            if (at >= run.given) {
                if (owner == 0) {
                    outcome = BRANCHED;
                    branches = ways;
                    return NONE;
                }
                run.ways[at] = 0;
            }
            run.limits[at] = ways;
            run.decisions = at + 1;
            return run.ways[at];
        }

        /** Something failed: the run to which it belongs ends, and those within it. */
        private void fail(int owner) {
            if (owner == 0) {
                outcome = FAILED;
                return;
            }
            Level run = levels[owner];
            tasks.size = run.base;
            level = owner;
            if (!run.advance()) {
                things.becomeData(run.sought, 0, NONE, NONE);
                level = owner - 1;
            } else if (run.runs >= MOST_RUNS_WITHIN) {
                outcome = CUT;
            } else {
                tasks.push(RUN_START, NONE, NONE, NONE);
            }
        }

        // ---- making things

        private int openScope(Expression first, Expression second, Expression text) {
            int scope = scopeCount < MOST_SCOPES ? scopeCount : MOST_SCOPES - 1;
            scopes[scope].open(first, second, text);
            scopeCount = scope + 1;
            return scope;
        }

        /** Makes open things for the names of the text that stand for nothing yet, be they within a SOME. */
        private void openNames(int scope, int owner) {
            int[] stands = scopes[scope].stands;
            Expression text = scopes[scope].text;
            for (int at = 0; at < text.size; at++) {
                if (text.tags[at] == NAME && stands[text.whats[at]] == NONE) {
                    stands[text.whats[at]] = things.addOpen(owner);
                }
            }
        }

        /** Makes the things of an expression, but not what is within a SOME of it. */
        private int makeThings(Expression text, int root, int scope, int owner) {
            int layer = text.layers[root];
            for (int at = text.firsts[root]; at <= root; at++) {
                if (text.layers[at] == layer) {
                    made[at] = makeThing(text, at, scope, owner);
                }
            }
            return made[root];
        }

        private int makeThing(Expression text, int at, int scope, int owner) {
            int tag = text.tags[at];
            if (tag == NAME) {
                return scopes[scope].stands[text.whats[at]];
            }
            if (tag == SOME) {
                return things.add(SOME, text.lefts[at], NONE, NONE, scope, owner);
            }
            int left = text.lefts[at] >= 0 ? made[text.lefts[at]] : NONE;
            int right = text.rights[at] >= 0 ? made[text.rights[at]] : NONE;
            return things.add(tag, text.whats[at], left, right, scope, owner);
        }

        // ---- forcing

        private void force(int thing) {
            int left = things.lefts[thing];
            int right = things.rights[thing];
            switch (things.tags[thing]) {
                case CALL:
                    startCall(thing);
                    break;
                case EITHER:
                    choose(thing);
                    break;
                case SAME:
                    tasks.push(UNITED, thing);
                    tasks.push(UNITE, left, right, thing);
                    tasks.push(WHOLE, right);
                    tasks.push(WHOLE, left);
                    break;
                case UNLIKE:
                    tasks.push(ASKED, thing);
                    tasks.push(ASK, left, right, thing);
                    tasks.push(WHOLE, right);
                    tasks.push(WHOLE, left);
                    break;
                case SOME:
                    startSome(thing);
                    break;
                default:
                    break;
            }
        }

        private boolean isForced(int thing) {
            return things.tags[thing] == OPEN || things.tags[thing] == DATA;
        }

        private void makeWhole(int thing) {
            if (!isForced(thing)) {
                tasks.push(WHOLE, thing);
                tasks.push(FORCE, thing);
            } else if (things.tags[thing] == DATA && things.wholes[thing] != levels[level].number) {
                things.wholes[thing] = levels[level].number;
                pushParts(thing);
            }
        }

        private void pushParts(int thing) {
            int parts = partsOfKind(things.whats[thing]);
            if (parts > 1) {
                tasks.push(WHOLE, things.rights[thing]);
            }
            if (parts > 0) {
                tasks.push(WHOLE, things.lefts[thing]);
            }
        }

        private void choose(int thing) {
            int way = decide(things.owners[thing], 2);
            if (way != NONE) {
                things.become(thing, way == 0 ? things.lefts[thing] : things.rights[thing]);
                tasks.push(FORCE, thing);
            }
        }

        // ---- calls

        private void startCall(int thing) {
            int owner = things.owners[thing];
            int function = things.whats[thing];
            int rules = program.rulesOf(function);
            if (rules == 0) {
                fail(owner);
                return;
            }
            int way = rules > 1 ? decide(owner, rules) : 0;
            Rule rule = way == NONE ? null : program.ruleOf(function, way);
            if (rule == null || !doStep()) {
                return;
            }
            things.scopes[thing] = openScope(rule.first, rule.second, rule.right);
            tasks.push(APPLY, thing);
            if (rule.second != null) {
                tasks.push(MATCH, MOST_IN_ONE + rule.second.size - 1, things.rights[thing], thing);
            }
            if (rule.first != null) {
                tasks.push(MATCH, rule.first.size - 1, things.lefts[thing], thing);
            }
        }

        /** Matches a part of a call; the places of the second pattern are counted on from the first one's. */
        private void match(int place, int part, int call) {
            Scope scope = scopes[things.scopes[call]];
            boolean isFirst = place < MOST_IN_ONE;
            Expression pattern = isFirst ? scope.first : scope.second;
            int at = isFirst ? place : place - MOST_IN_ONE;
            if (pattern == null || at < 0 || at >= pattern.size) {
                return;
            }
            if (pattern.tags[at] == NAME) {
                scope.stands[pattern.whats[at]] = part;
                return;
            }
            int thing = things.find(part);
            if (!isForced(thing)) {
                tasks.push(MATCH, place, part, call);
                tasks.push(FORCE, thing);
            } else if (isKind(thing, pattern.whats[at], call)) {
                matchParts(pattern, at, place - at, thing, call);
            }
        }

        /** Whether a thing is data of a kind, which an open one becomes; if not, something failed or floats. */
        private boolean isKind(int thing, int kind, int call) {
            int owner = things.owners[call];
            if (things.tags[thing] == DATA) {
                if (things.whats[thing] == kind) {
                    return true;
                }
                fail(owner);
                return false;
            }
            if (program.areRigid[things.whats[call]] || things.owners[thing] != owner) {
                outcome = FLOATED;
                return false;
            }
            int parts = partsOfKind(kind);
            int left = parts > 0 ? things.addOpen(owner) : NONE;
            int right = parts > 1 ? things.addOpen(owner) : NONE;
            things.becomeData(thing, kind, left, right);
            return true;
        }

        private void matchParts(Expression pattern, int at, int start, int thing, int call) {
            if (pattern.rights[at] >= 0) {
                tasks.push(MATCH, start + pattern.rights[at], things.rights[thing], call);
            }
            if (pattern.lefts[at] >= 0) {
                tasks.push(MATCH, start + pattern.lefts[at], things.lefts[thing], call);
            }
        }

        /** The parts of a call have matched. */
        private void applyRule(int call) {
            int scope = things.scopes[call];
            int owner = things.owners[call];
            Expression right = scopes[scope].text;
            openNames(scope, owner);
            things.become(call, makeThings(right, right.size - 1, scope, owner));
            tasks.push(FORCE, call);
        }

        // ---- SAME and UNLIKE

        private void unite(int a, int b, int owner, int same) {
            if (a == b || !doStep()) {
                return;
            }
            if (things.tags[a] == OPEN) {
                bind(a, b, owner);
            } else if (things.tags[b] == OPEN) {
                bind(b, a, owner);
            } else if (things.whats[a] != things.whats[b]) {
                fail(owner);
            } else {
                pushPairs(UNITE, a, b, same);
            }
        }

        /** An open thing becomes another one, or that one this, if both are open and this belongs elsewhere. */
        private void bind(int open, int other, int owner) {
            if (things.isIn(open, other)) {
                fail(owner);
            } else if (things.owners[open] == owner) {
                things.become(open, other);
            } else if (things.tags[other] == OPEN && things.owners[other] == owner) {
                things.become(other, open);
            } else {
                outcome = FLOATED;
            }
        }

        private void pushPairs(int act, int a, int b, int asker) {
            int parts = partsOfKind(things.whats[a]);
            if (parts > 1) {
                tasks.push(act, things.rights[a], things.rights[b], asker);
            }
            if (parts > 0) {
                tasks.push(act, things.lefts[a], things.lefts[b], asker);
            }
        }

        private void ask(int a, int b, int unlike) {
            if (a == b) {
                return;
            }
            if (things.tags[a] == OPEN || things.tags[b] == OPEN) {
                outcome = FLOATED;
                return;
            }
            if (!doStep()) {
                return;
            }
            if (things.whats[a] == things.whats[b]) {
                pushPairs(ASK, a, b, unlike);
            } else {
                dropAsking();
                things.becomeData(unlike, 1, NONE, NONE);
            }
        }

        /** Nothing is forced while it is asked, so what was left to ask is last, above its end. */
        private void dropAsking() {
            int size = tasks.size;
            while (size > 0 && tasks.acts[size - 1] == ASK) {
                size--;
            }
            if (size > 0 && tasks.acts[size - 1] == ASKED) {
                size--;
            }
            tasks.size = size;
        }

        // ---- SOME

        private void startSome(int thing) {
            if (level + 1 >= MOST_LEVELS) {
                outcome = CUT;
                return;
            }
            level++;
            Level run = levels[level];
            run.sought = thing;
            run.base = tasks.size;
            run.runs = 0;
            run.given = 0;
            tasks.push(RUN_START, thing);
        }

        private void startRunWithin(Level run) {
            if (!doStep()) {
                return;
            }
            runNumber++;
            run.number = runNumber;
            run.runs++;
            run.decisions = 0;
            tasks.push(RUN_END, run.sought);
            int scope = things.scopes[run.sought];
            int root = things.whats[run.sought];
            tasks.push(WHOLE, makeThings(scopes[scope].text, root, scope, level));
        }

        private void endRunWithin() {
            things.becomeData(levels[level].sought, 1, NONE, NONE);
            level--;
        }
    }

    /** A value that is kept, told in rows of numbers, with NONE behind the last ones. */
    private static final class Found {
        private final int[] parts = new int[MOST_TOLD];
        private final int[][] bounds = new int[NAMES][MOST_TOLD];
        private final int[] ways = new int[MOST_DECISIONS];
        private int steps = 0;
        private final int[] opens = new int[MOST_TOLD];
        /** What is still to be told: each number takes one thing away and brings two at most. */
        private final int[] ahead = new int[MOST_TOLD + 2];

        private void keep(Machine machine, int root) {
            steps = machine.steps;
            tellRow(machine.things, root, parts);
            int[] stands = machine.scopes[0].stands;
            for (int name = 0; name < NAMES; name++) {
                tellRow(machine.things, stands[name], bounds[name]);
            }
            Level run = machine.lowest;
            for (int at = 0; at < MOST_DECISIONS; at++) {
                ways[at] = at < run.decisions ? run.ways[at] : NONE;
            }
        }

        private void tellRow(Things things, int root, int[] row) {
            int left = 0;
            if (root >= 0) {
                ahead[0] = root;
                left = 1;
            }
            int unlikeOpens = 0;
            for (int place = 0; place < MOST_TOLD; place++) {
                if (left == 0) {
                    row[place] = NONE;
                    continue;
                }
                left--;
                int thing = things.find(ahead[left]);
                if (things.tags[thing] == OPEN) {
                    int number = numberOfOpen(thing, unlikeOpens);
                    unlikeOpens = number == unlikeOpens ? number + 1 : unlikeOpens;
                    row[place] = FIRST_OPEN + number;
                } else {
                    row[place] = things.whats[thing];
                    left = lookAhead(things, thing, left);
                }
            }
        }

        private int numberOfOpen(int thing, int unlikeOpens) {
            for (int at = 0; at < unlikeOpens; at++) {
                if (opens[at] == thing) {
                    return at;
                }
            }
            opens[unlikeOpens] = thing;
            return unlikeOpens;
        }

        private int lookAhead(Things things, int thing, int left) {
            int end = left;
            int parts = things.tags[thing] == DATA ? partsOfKind(things.whats[thing]) : 0;
            if (parts > 1) {
                ahead[end] = things.rights[thing];
                end++;
            }
            if (parts > 0) {
                ahead[end] = things.lefts[thing];
                end++;
            }
            return end;
        }
    }

    /** The searches, and what the latest one found. */
    private static final class Searches {
        private final Machine machine;
        private final Found[] found = new Found[MOST_KEPT];
        private final int[] numbers = new int[NUMBERS];
        // Rows of ways, each told by the one that it goes on from and its last way; the empty one is first.
        private final int[] origins = new int[MOST_ROWS];
        private final int[] lastWays = new int[MOST_ROWS];
        private final int[] lengths = new int[MOST_ROWS];
        private int rows = 0;
        // The rows that are left, from start to end.
        private final int[] left = new int[MOST_ROWS];
        private int start = 0;
        private int end = 0;
        private int kept = 0;

        private Searches(Machine machine) {
            this.machine = machine;
            for (int at = 0; at < MOST_KEPT; at++) {
                found[at] = new Found();
            }
        }

        private int make(Expression goal, int order, int seed) {
            clear();
            addRow(0, 0, 0);
            int state = seed;
            for (int runs = 0; runs < MOST_RUNS && start < end; runs++) {
                int place = order == DEPTH ? end - start - 1 : 0;
                if (order == DRAWN) {
                    state = state * 1103515245 + 12345;
                    place = ((state >>> 16) & 0xFFFF) % (end - start);
                }
                int row = takeRow(place);
                giveWays(row);
                int outcome = machine.makeRun(goal);
                numbers[ALL_RUNS]++;
                if (outcome == BRANCHED) {
                    addBranches(row, order);
                } else {
                    numbers[outcome]++;
                    keepValue(outcome);
                }
            }
            numbers[IS_EMPTY] = start < end ? 0 : 1;
            return numbers[VALUE];
        }

        private void clear() {
            for (int at = 0; at < NUMBERS; at++) {
                numbers[at] = 0;
            }
            rows = 0;
            start = 0;
            end = 0;
            kept = 0;
        }

        private void addRow(int origin, int way, int length) {
            if (rows < MOST_ROWS && end < MOST_ROWS) {
                origins[rows] = origin;
                lastWays[rows] = way;
                lengths[rows] = length;
                left[end] = rows;
                rows++;
                end++;
            }
        }

        private void addBranches(int row, int order) {
            int ways = machine.branches;
            for (int at = 0; at < ways; at++) {
                addRow(row, order == DEPTH ? ways - 1 - at : at, lengths[row] + 1);
            }
        }

        /** Takes the row out that stands at a place among those that are left. */
        private int takeRow(int place) {
            int at = start + place;
            int row = left[at];
            if (place == 0) {
                start++;
            } else {
                System.arraycopy(left, at + 1, left, at, end - at - 1);
                end--;
            }
            return row;
        }

        private void giveWays(int row) {
            Level run = machine.lowest;
            int origin = row;
            run.given = lengths[row] < MOST_DECISIONS ? lengths[row] : MOST_DECISIONS;
            for (int at = run.given - 1; at >= 0; at--) {
                run.ways[at] = lastWays[origin];
                origin = origins[origin];
            }
        }

        private void keepValue(int outcome) {
            if (outcome == VALUE && kept < MOST_KEPT) {
                found[kept].keep(machine, machine.root);
                kept++;
            }
        }

        /** Goes through all rows of at most so many ways, as the runs within a run go through theirs. */
        private int countWithin(Expression goal, int decisions) {
            Level run = machine.lowest;
            run.given = 0;
            int values = 0;
            for (int runs = 1; runs < TOO_MANY_RUNS; runs++) {
                int outcome = machine.makeRun(goal);
                if (outcome == VALUE) {
                    values++;
                }
                if (outcome == BRANCHED && run.given < decisions) {
                    run.deepen();
                } else if (!run.advance()) {
                    return values;
                }
            }
            return NONE;
        }
    }
}
