/**
 * The edges of what is told ("Programs" in Terms, and promises 1 to 14): the last that is allowed, the first
 * beyond it, nothing at all, the most that there may be. What a refused call leaves is looked at by RefusedTest.
 */
public final class ProgramsEdgesTest {
    private static final int FAR = Integer.MAX_VALUE;
    private static final int BELOW = Integer.MIN_VALUE;

    public static void main(String[] args) {
        nothingTold();
        kindsAndTheirParts();
        partsThatDoNotMatter();
        twelveNodes();
        partOfSeveral();
        mostNodesTwice();
        mostFunctions();
        namesOfALeftSide();
        patternsOfTwelveNodes();
        mostRulesOfOneFunction();
        mostRulesOfAll();
        rulesOutliveDrop();
        manyAtTheEdges();
        manyPatternsAtTheEdges();
        goalsAtTheEdges();
        lastCall();
        Expect.end("ProgramsEdgesTest");
    }

    /** Promise 1: no functions, nodes and goal. */
    private static void nothingTold() {
        Choicepoint x = new Choicepoint();
        Expect.due("drop of nothing", x.drop(), 0);
        Expect.due("drop of nothing again", x.drop(), 0);
        Expect.due("many of nothing", x.many(), 0);
        Expect.index("call of the first function", () -> x.call(0, 0, 0));
        Expect.index("rule of the first function", () -> x.rule(0, 0, 0, 0));
        Expect.index("unrule of the first function", () -> x.unrule(0));
        Expect.index("goal of the first node", () -> x.goal(0));
        Expect.index("some of the first node", () -> x.some(0));
        Expect.state("search", () -> x.search(Choicepoint.DEPTH, 0));
        Expect.state("within", () -> x.within(0));
        x.function(0, false);
        x.name(0);
        Expect.state("search with a node, but no goal", () -> x.search(Choicepoint.DRAWN, 0));
        Expect.state("within with a node, but no goal", () -> x.within(10));
        Expect.due("many of a function without rules", x.many(), 0);
        Expect.state("unrule of a function without rules", () -> x.unrule(0));
        Choicepoint other = new Choicepoint();
        Expect.index("another object's function", () -> other.call(0, 0, 0));
        Expect.index("another object's node", () -> other.goal(0));
        Expect.due("functions and nodes do not count for one another", other.function(2, true), 0);
        Expect.due("another object's first node", other.name(5), 0);
    }

    /** Data are of a kind, 0 to 5: 0 and 1 have no parts, 2 and 3 one, 4 and 5 two. Names are 0 to 5. */
    private static void kindsAndTheirParts() {
        Choicepoint x = new Choicepoint();
        for (int number = 0; number < 6; number++) {
            Expect.due("name " + number, x.name(number), number);
        }
        String[] rows = {"0", "1", "2 10", "3 10", "4 10 11", "5 10 11"};
        for (int kind = 0; kind < 6; kind++) {
            int node = x.data(kind, 4, 5);
            Expect.due("nodes of the kind " + kind, x.goal(node), 1 + kind / 2);
            Expect.due("search", x.search(Choicepoint.DEPTH, 0), 1);
            Expect.row("the kind " + kind, Expect.parts(x, 0), rows[kind]);
            for (int name = 0; name < 6; name++) {
                boolean isThere = name == 4 && kind > 1 || name == 5 && kind > 3;
                Expect.row("name " + name, Expect.bounds(x, 0, name), isThere ? "10" : "");
            }
        }
        for (int wrong : new int[] {-1, 6, FAR, BELOW}) {
            Expect.argument("name " + wrong, () -> x.name(wrong));
            Expect.argument("kind " + wrong, () -> x.data(wrong, 0, 0));
        }
        Expect.due("how many were told", x.drop(), 12);
    }

    /** A part that does not matter may be any number, one of a node of twelve too. */
    private static void partsThatDoNotMatter() {
        Choicepoint x = new Choicepoint();
        x.function(0, false);
        x.function(1, false);
        int twelve = x.data(0, 0, 0);
        for (int at = 1; at < 12; at++) {
            twelve = x.data(2, twelve, FAR);
        }
        for (int any : new int[] {-1, 80, FAR, BELOW, twelve}) {
            Expect.due("a kind without parts", x.goal(x.data(0, any, any)), 1);
            Expect.due("a kind without parts", x.goal(x.data(1, any, any)), 1);
            Expect.due("a kind of one part", x.goal(x.data(3, 0, any)), 2);
            Expect.due("a call without parts", x.goal(x.call(0, any, any)), 1);
            Expect.due("a call of one part", x.goal(x.call(1, 0, any)), 2);
            Expect.due("a rule without parts", x.rule(0, any, any, 0), 0);
            Expect.due("a rule of one part", x.rule(1, 0, any, 0), 0);
            Expect.due("none is left", x.unrule(0) + x.unrule(1), 0);
        }
    }

    /** Twelve nodes by each call that tells some, and thirteen. */
    private static void twelveNodes() {
        Choicepoint x = new Choicepoint();
        x.function(1, false);
        x.function(2, false);
        int[] sized = new int[13];
        sized[1] = x.data(1, 0, 0);
        for (int size = 2; size <= 12; size++) {
            sized[size] = x.data(3, sized[size - 1], 0);
        }
        for (int tag = 0; tag < 4; tag++) {
            int its = tag;
            Expect.due("one part of 11, " + tag, x.goal(tell(x, tag, sized[11], 0)), 12);
            Expect.state("one part of 12, " + tag, () -> tell(x, its, sized[12], 0));
        }
        for (int tag = 4; tag < 10; tag++) {
            int its = tag;
            for (int size : new int[] {1, 5, 10}) {
                Expect.due(size + " and " + (11 - size) + " nodes, " + tag,
                        x.goal(tell(x, tag, sized[size], sized[11 - size])), 12);
                Expect.state(size + " and " + (12 - size) + " nodes, " + tag,
                        () -> tell(x, its, sized[size], sized[12 - size]));
            }
            Expect.state("12 and 12 nodes, " + tag, () -> tell(x, its, sized[12], sized[12]));
        }
        Expect.due("how many were told", x.drop(), 12 + 4 + 6 * 3);
    }

    private static int tell(Choicepoint x, int tag, int a, int b) {
        switch (tag) {
            case 0: return x.data(2, a, b);
            case 1: return x.data(3, a, b);
            case 2: return x.call(0, a, b);
            case 3: return x.some(a);
            case 4: return x.data(4, a, b);
            case 5: return x.data(5, a, b);
            case 6: return x.call(1, a, b);
            case 7: return x.either(a, b);
            case 8: return x.same(a, b);
            default: return x.unlike(a, b);
        }
    }

    /** An expression that is told as a part of several is in each of them by itself, and counted as often. */
    private static void partOfSeveral() {
        Choicepoint x = new Choicepoint();
        x.function(0, false);
        int zero = x.data(0, 0, 0);
        int choice = x.either(zero, x.data(1, 0, 0));
        int twice = x.data(4, choice, choice);
        Expect.due("three nodes, twice", x.goal(twice), 7);
        Expect.due("each chooses by itself", x.search(Choicepoint.DEPTH, 0), 4);
        int two = x.data(4, zero, zero);
        int three = x.data(2, two, 0);
        Expect.due("nodes", x.goal(x.data(5, x.data(4, three, three), x.data(3, zero, 0))), 12);
        Expect.state("nodes counted as often", () -> x.data(4, twice, x.data(2, three, 0)));
    }

    /** There are 80 nodes at most, and 80 again after a drop. */
    private static void mostNodesTwice() {
        Choicepoint x = new Choicepoint();
        x.function(1, false);
        for (int turn = 0; turn < 2; turn++) {
            x.name(turn);
            for (int at = 1; at < 80; at++) {
                Expect.due("node " + at, at % 11 == 0 ? x.name(5) : tell(x, at % 4, at - 1, 0), at);
            }
            Expect.state("an 81st node", () -> x.name(0));
            Expect.state("an 81st node, data", () -> x.data(0, 0, 0));
            Expect.due("goal of the last node", x.goal(79), 3);
            Expect.due("drop of 80", x.drop(), 80);
        }
        Expect.due("drop of none", x.drop(), 0);
        Expect.index("the last node is no more", () -> x.goal(79));
        Expect.index("the first node is no more", () -> x.some(0));
    }

    /** 8 functions, each with its own parts and rules. */
    private static void mostFunctions() {
        Choicepoint x = new Choicepoint();
        for (int wrong : new int[] {-1, 3, FAR, BELOW}) {
            Expect.argument("function of " + wrong, () -> x.function(wrong, false));
        }
        for (int at = 0; at < 8; at++) {
            Expect.due("function " + at, x.function(at % 3, at % 2 == 0), at);
        }
        Expect.state("a ninth function", () -> x.function(1, false));
        int zero = x.data(0, 0, 0);
        for (int at = 0; at < 8; at++) {
            Expect.due("nodes of a call of " + at, x.goal(x.call(at, zero, zero)), 1 + at % 3);
            Expect.due("rule of " + at, x.rule(at, zero, zero, zero), 0);
            Expect.due("search", x.search(Choicepoint.DEPTH, 0), 1);
        }
        Expect.index("call of a ninth", () -> x.call(8, 0, 0));
        Expect.index("rule of a ninth", () -> x.rule(8, 0, 0, 0));
        Expect.index("unrule of a ninth", () -> x.unrule(8));
        for (int at = 0; at < 8; at++) {
            Expect.due("unrule of " + at, x.unrule(at), 0);
        }
        Expect.state("functions stay", () -> x.function(0, false));
    }

    /** No name is twice in the left side; all six may be in it once. */
    private static void namesOfALeftSide() {
        Choicepoint x = new Choicepoint();
        x.function(2, false);
        int[] names = new int[6];
        for (int number = 0; number < 6; number++) {
            names[number] = x.name(number);
        }
        int first = x.data(4, x.data(5, names[0], names[1]), names[2]);
        int second = x.data(4, names[3], x.data(5, names[4], names[5]));
        int row = x.data(4, x.data(4, names[5], names[4]), x.data(4, names[3], names[2]));
        int right = x.data(4, row, x.data(4, names[1], names[0]));
        Expect.due("all six names", x.rule(0, first, second, right), 0);
        for (int number = 0; number < 6; number++) {
            int name = names[number];
            boolean isInFirst = number < 3;
            Expect.argument("a name twice", () -> x.rule(0, isInFirst ? first : name, isInFirst ? name : second, right));
        }
        x.drop();
        int zero = x.data(0, 0, 0);
        int one = x.data(1, 0, 0);
        int deep = x.data(2, zero, 0);
        int a = x.data(4, x.data(5, zero, one), deep);
        int b = x.data(4, one, x.data(5, zero, x.name(0)));
        Expect.due("nodes", x.goal(x.call(0, a, b)), 12);
        Expect.due("search", x.search(Choicepoint.DEPTH, 0), 1);
        Expect.row("each name stands for its part", Expect.parts(x, 0), "4 4 4 10 0 4 1 2 0 4 1 0");
    }

    /** Patterns may have twelve nodes each; by them an open thing becomes data of as many. */
    private static void patternsOfTwelveNodes() {
        Choicepoint x = new Choicepoint();
        x.function(2, false);
        int chain = x.data(0, 0, 0);
        int combs = x.data(1, 0, 0);
        for (int at = 1; at < 12; at++) {
            chain = x.data(2, chain, 0);
            combs = at % 2 == 0 ? x.data(5, combs, at < 10 ? x.name(at / 2) : x.data(3, x.name(0), 0)) : combs;
        }
        Expect.due("nodes of the first pattern", x.goal(chain), 12);
        Expect.due("nodes of the second pattern", x.goal(combs), 12);
        Expect.due("rule", x.rule(0, chain, combs, x.name(3)), 0);
        Expect.due("nodes of the goal", x.goal(x.call(0, x.name(1), x.name(2))), 3);
        Expect.due("search", x.search(Choicepoint.DEPTH, 0), 1);
        Expect.row("the first part", Expect.bounds(x, 0, 1), "2 2 2 2 2 2 2 2 2 2 2 0");
        Expect.row("the second part", Expect.bounds(x, 0, 2), "5 5 5 5 5 1 10 11 12 13 3 14");
        Expect.due("steps", x.steps(0), 1);
    }

    /** All 24 rules may be of one function: 24 ways, in the order in which they were told. */
    private static void mostRulesOfOneFunction() {
        Choicepoint x = new Choicepoint();
        x.function(0, false);
        x.function(0, false);
        int zero = x.data(0, 0, 0);
        int one = x.data(1, 0, 0);
        for (int at = 0; at < 24; at++) {
            Expect.due("rule", x.rule(0, -1, -1, at % 3 == 0 ? zero : one), at);
        }
        Expect.state("a 25th rule", () -> x.rule(0, 0, 0, zero));
        Expect.state("a 25th rule, of another function", () -> x.rule(1, 0, 0, zero));
        x.goal(x.call(0, 0, 0));
        Expect.due("24 ways", x.search(Choicepoint.BREADTH, 0), 24);
        Expect.due("24 ways, and the run that branched", x.count(4), 25);
        for (int value = 0; value < 10; value++) {
            Expect.row("way " + value, Expect.fates(x, value), Integer.toString(value));
            Expect.row("value " + value, Expect.parts(x, value), value % 3 == 0 ? "0" : "1");
        }
        for (int left = 23; left >= 0; left--) {
            Expect.due("unrule", x.unrule(0), left);
        }
        Expect.state("unrule of none", () -> x.unrule(0));
        Expect.due("without rules it fails", x.search(Choicepoint.BREADTH, 0), 0);
        Expect.due("failed", x.count(1), 1);
        Expect.due("the first rule again", x.rule(0, 0, 0, one), 0);
        Expect.due("one rule is no decision", x.search(Choicepoint.BREADTH, 0), 1);
        Expect.row("one rule is no decision", Expect.fates(x, 0), "");
    }

    /** "If there are 24 rules": those of all functions together. */
    private static void mostRulesOfAll() {
        Choicepoint x = new Choicepoint();
        for (int at = 0; at < 8; at++) {
            x.function(0, false);
        }
        int zero = x.data(0, 0, 0);
        for (int at = 0; at < 24; at++) {
            Expect.due("rule", x.rule(at % 8, 0, 0, zero), at / 8);
        }
        for (int at = 0; at < 8; at++) {
            int function = at;
            Expect.state("a 25th rule", () -> x.rule(function, 0, 0, zero));
        }
        Expect.due("unrule", x.unrule(7), 2);
        Expect.due("a 24th rule", x.rule(0, 0, 0, zero), 3);
        Expect.state("a 25th rule again", () -> x.rule(7, 0, 0, zero));
    }

    /** A drop leaves rules and the goal, also those whose nodes are told anew. */
    private static void rulesOutliveDrop() {
        Choicepoint x = new Choicepoint();
        x.function(1, false);
        int a = x.name(0);
        x.rule(0, x.data(2, a, 0), 0, x.data(4, a, x.some(a)));
        x.goal(x.call(0, x.data(2, x.data(1, 0, 0), 0), 0));
        Expect.due("drop", x.drop(), 7);
        for (int at = 0; at < 7; at++) {
            x.data(0, 0, 0);
        }
        Expect.due("search", x.search(Choicepoint.DEPTH, 0), 1);
        Expect.row("the rule and the goal", Expect.parts(x, 0), "4 1 1");
        Expect.due("values stay", x.drop(), 7);
        Expect.row("values stay", Expect.parts(x, 0), "4 1 1");
    }

    /** All eight functions, and none: the eighth is the bit 128. */
    private static void manyAtTheEdges() {
        Choicepoint x = new Choicepoint();
        for (int at = 0; at < 8; at++) {
            x.function(0, false);
        }
        int zero = x.data(0, 0, 0);
        Expect.due("eight functions without rules", x.many(), 0);
        for (int at = 0; at < 7; at++) {
            x.rule(at, 0, 0, x.call(at + 1, 0, 0));
        }
        Expect.due("calls of one without rules", x.many(), 0);
        x.rule(7, 0, 0, zero);
        Expect.due("calls of one with a rule", x.many(), 0);
        x.rule(7, 0, 0, zero);
        Expect.due("each calls the next one", x.many(), 255);
        x.unrule(6);
        Expect.due("the last one alone", x.many(), 128);
        x.rule(6, 0, 0, x.some(x.call(7, 0, 0)));
        Expect.due("within a SOME", x.many(), 128);
        x.unrule(6);
        x.rule(6, 0, 0, x.data(4, x.some(zero), x.data(2, x.call(7, 0, 0), 0)));
        Expect.due("beside a SOME", x.many(), 255);
        x.unrule(7);
        x.unrule(7);
        x.rule(7, 0, 0, x.call(0, 0, 0));
        Expect.due("in a circle", x.many(), 0);
        x.unrule(7);
        x.rule(7, 0, 0, x.data(3, x.either(zero, zero), 0));
        Expect.due("an EITHER", x.many(), 255);
        x.unrule(7);
        x.rule(7, 0, 0, x.some(x.some(x.either(x.name(5), x.call(0, 0, 0)))));
        Expect.due("all within a SOME", x.many(), 0);
    }

    /** Patterns of twelve nodes that differ in the last one alone; and a name of a pattern in the right side. */
    private static void manyPatternsAtTheEdges() {
        Choicepoint x = new Choicepoint();
        x.function(2, false);
        int zero = x.data(0, 0, 0);
        int one = x.data(1, 0, 0);
        int name = x.name(5);
        int[] deep = {zero, one, name};
        for (int at = 0; at < 3; at++) {
            for (int depth = 1; depth < 12; depth++) {
                deep[at] = x.data(2, deep[at], 0);
            }
        }
        int[][] pairs = {{0, 1, 0}, {0, 0, 1}, {0, 2, 1}, {2, 1, 1}, {2, 2, 1}};
        for (int[] pair : pairs) {
            x.rule(0, deep[pair[0]], zero, zero);
            x.rule(0, deep[pair[1]], zero, zero);
            Expect.due("deep first patterns " + pair[0] + " and " + pair[1], x.many(), pair[2]);
            x.unrule(0);
            x.unrule(0);
            x.rule(0, zero, deep[pair[0]], zero);
            x.rule(0, zero, deep[pair[1]], zero);
            Expect.due("deep second patterns " + pair[0] + " and " + pair[1], x.many(), pair[2]);
            x.unrule(0);
            x.unrule(0);
        }
        x.rule(0, name, x.name(0), x.data(4, name, x.name(0)));
        Expect.due("names of the patterns", x.many(), 0);
        x.rule(0, name, x.name(0), name);
        Expect.due("whatever names are alike", x.many(), 1);
        x.unrule(0);
        x.unrule(0);
        x.rule(0, name, x.name(0), x.data(4, name, x.name(4)));
        Expect.due("a name that is not in the patterns", x.many(), 1);
    }

    /** Promise 14: values are no more, numbers stay; a goal may have one node to twelve. */
    private static void goalsAtTheEdges() {
        Choicepoint x = new Choicepoint();
        int node = x.name(5);
        for (int size = 1; size <= 12; size++) {
            Expect.due("nodes of the goal", x.goal(node), size);
            Expect.due("search", x.search(Choicepoint.DEPTH, 0), 1);
            Expect.row("the name's own row", Expect.bounds(x, 0, 5), "10");
            node = size < 12 ? x.data(2, node, 0) : node;
        }
        Expect.row("a goal of twelve", Expect.parts(x, 0), "2 2 2 2 2 2 2 2 2 2 2 10");
        Expect.index("goal of the node behind the last one", () -> x.goal(12));
        Expect.index("goal of a node below", () -> x.goal(-1));
        Expect.row("values after what threw", Expect.parts(x, 0), "2 2 2 2 2 2 2 2 2 2 2 10");
        Expect.due("the same goal again", x.goal(11), 12);
        Expect.index("its values are no more", () -> x.part(0, 0));
        int[] want = {1, 0, 0, 0, 1, 1};
        for (int what = 0; what < 6; what++) {
            Expect.due("numbers stay", x.count(what), want[what]);
        }
    }

    /** An object is used for 512 calls: the last one is answered as the first one. */
    private static void lastCall() {
        Choicepoint x = new Choicepoint();
        x.function(1, false);
        int a = x.name(0);
        int zero = x.data(0, 0, 0);
        x.rule(0, zero, 0, x.data(2, a, 0));
        x.rule(0, x.data(2, a, 0), 0, x.data(4, a, x.call(0, a, 0)));
        x.drop();
        int three = x.data(0, 0, 0);
        for (int at = 0; at < 3; at++) {
            three = x.data(2, three, 0);
        }
        int goal = x.call(0, three, 0);
        int calls = 15;
        while (calls < 500) {
            Expect.due("goal", x.goal(goal), 5);
            Expect.due("search", x.search(calls % 3, calls), 1);
            Expect.due("within", x.within(4), 1);
            calls += 3;
        }
        Expect.due("count", x.count(1), 4);
        Expect.due("all", x.count(4), 9);
        Expect.due("steps", x.steps(0), 4);
        Expect.due("a part", x.part(0, 0), 4);
        calls += 4;
        while (calls < 512) {
            Expect.due("the last calls", x.part(0, 10), 10);
            calls++;
        }
    }
}
