/** Promises 1 to 10, and 14: what is told, and the goal. */
public final class TellingTest {
    private static final int FAR = Integer.MAX_VALUE;
    private static final int BELOW = Integer.MIN_VALUE;

    public static void main(String[] args) {
        newObject();
        functions();
        names();
        data();
        dataSizes();
        calls();
        pairs();
        somes();
        fullOfNodes();
        drops();
        goals();
        Expect.end("TellingTest");
    }

    private static void newObject() {
        Choicepoint x = new Choicepoint();
        Expect.due("drop of nothing", x.drop(), 0);
        Expect.due("many of nothing", x.many(), 0);
        for (int what = 0; what < 6; what++) {
            Expect.due("count ahead of a search", x.count(what), 0);
        }
        Expect.state("search without a goal", () -> x.search(0, 0));
        Expect.state("within without a goal", () -> x.within(0));
        Expect.index("goal without nodes", () -> x.goal(0));
        Expect.index("call without functions", () -> x.call(0, 0, 0));
        Expect.index("unrule without functions", () -> x.unrule(0));
        Expect.index("part without values", () -> x.part(0, 0));
        Expect.due("the first function", x.function(0, true), 0);
        Expect.due("the first node", x.name(0), 0);
        Choicepoint other = new Choicepoint();
        Expect.due("another object's first node", other.name(3), 0);
    }

    private static void functions() {
        Choicepoint x = new Choicepoint();
        Expect.argument("function(-1)", () -> x.function(-1, false));
        Expect.argument("function(3)", () -> x.function(3, true));
        Expect.argument("function far", () -> x.function(FAR, true));
        Expect.argument("function below", () -> x.function(BELOW, true));
        for (int at = 0; at < 8; at++) {
            Expect.due("function", x.function(at % 3, at % 2 == 0), at);
        }
        Expect.state("a ninth function", () -> x.function(0, false));
        Expect.argument("a ninth function of 3 parts", () -> x.function(3, false));
        Expect.due("a name", x.name(0), 0);
        Expect.due("call of the last function", x.call(7, 0, FAR), 1);
        Expect.index("call of a ninth function", () -> x.call(8, 0, 0));
    }

    private static void names() {
        Choicepoint x = new Choicepoint();
        Expect.argument("name(-1)", () -> x.name(-1));
        Expect.argument("name(6)", () -> x.name(6));
        for (int number = 0; number < 6; number++) {
            Expect.due("name", x.name(number), number);
        }
        Expect.due("a name once more", x.name(5), 6);
        Expect.due("how many were told", x.drop(), 7);
    }

    private static void data() {
        Choicepoint x = new Choicepoint();
        Expect.due("data(0)", x.data(0, -7, FAR), 0);
        Expect.due("data(1)", x.data(1, BELOW, 99), 1);
        Expect.due("data(2)", x.data(2, 0, -1), 2);
        Expect.due("data(3)", x.data(3, 2, 80), 3);
        Expect.due("data(4)", x.data(4, 3, 1), 4);
        Expect.due("data(5)", x.data(5, 0, 4), 5);
        Expect.index("data(2) of no node", () -> x.data(2, 6, 0));
        Expect.index("data(3) below", () -> x.data(3, -1, 0));
        Expect.index("data(4) of no second node", () -> x.data(4, 0, 6));
        Expect.index("data(5) of no first node", () -> x.data(5, -1, 0));
        Expect.argument("data(6)", () -> x.data(6, 0, 0));
        Expect.argument("data(-1)", () -> x.data(-1, 0, 0));
        Expect.argument("data(6) of no nodes", () -> x.data(6, 77, -4));
        Expect.argument("data below", () -> x.data(BELOW, -1, -1));
        Expect.due("nodes after what threw", x.name(0), 6);
        Expect.due("nodes of the goal", x.goal(5), 7);
    }

    private static void dataSizes() {
        Choicepoint x = new Choicepoint();
        int chain = x.data(0, 0, 0);
        for (int size = 2; size <= 12; size++) {
            chain = x.data(2, chain, 0);
            Expect.due("nodes of a chain", x.goal(chain), size);
        }
        int longest = chain;
        Expect.state("a chain of 13", () -> x.data(2, longest, 0));
        Expect.state("two with 12 and 1", () -> x.data(4, longest, 0));
        int three = x.data(4, 0, 0);
        int seven = x.data(5, three, three);
        Expect.due("nodes told as parts of several", x.goal(seven), 7);
        Expect.state("15 nodes", () -> x.data(4, seven, seven));
        int twelve = x.data(4, seven, 3);
        Expect.due("12 nodes", x.goal(twelve), 12);
        Expect.state("13 nodes", () -> x.data(4, seven, 4));
        Expect.index("13 nodes, and none", () -> x.data(4, seven, 99));
    }

    private static void calls() {
        Choicepoint x = new Choicepoint();
        x.function(0, false);
        x.function(1, false);
        x.function(2, true);
        x.data(1, 0, 0);
        Expect.due("call without parts", x.call(0, -9, FAR), 1);
        Expect.due("call of one part", x.call(1, 1, -9), 2);
        Expect.due("call of two parts", x.call(2, 2, 0), 3);
        Expect.index("call of no function", () -> x.call(3, 0, 0));
        Expect.index("call below", () -> x.call(-1, 0, 0));
        Expect.index("call of one part that is none", () -> x.call(1, 4, 0));
        Expect.index("call of two parts, the second none", () -> x.call(2, 0, -1));
        Expect.index("call of two parts, the first none", () -> x.call(2, 4, 0));
        Expect.due("nodes of a call", x.goal(3), 4);
        int chain = 3;
        for (int size = 5; size <= 12; size++) {
            chain = x.call(1, chain, 0);
        }
        int longest = chain;
        Expect.due("12 nodes", x.goal(longest), 12);
        Expect.state("13 nodes", () -> x.call(1, longest, 0));
        Expect.due("nodes after what threw", x.call(0, 0, 0), 12);
    }

    private static void pairs() {
        Choicepoint x = new Choicepoint();
        x.data(0, 0, 0);
        Expect.due("either", x.either(0, 0), 1);
        Expect.due("same", x.same(0, 1), 2);
        Expect.due("unlike", x.unlike(2, 0), 3);
        Expect.due("nodes", x.goal(3), 7);
        Expect.index("either of no first", () -> x.either(4, 0));
        Expect.index("either of no second", () -> x.either(0, 4));
        Expect.index("same of no first", () -> x.same(-1, 0));
        Expect.index("same of no second", () -> x.same(0, FAR));
        Expect.index("unlike of no first", () -> x.unlike(BELOW, 0));
        Expect.index("unlike of no second", () -> x.unlike(0, -1));
        Expect.state("either of 15", () -> x.either(3, 3));
        Expect.state("same of 13", () -> x.same(3, 2));
        Expect.state("unlike of 13", () -> x.unlike(2, 3));
        Expect.due("either of 11", x.either(3, 1), 4);
        Expect.due("same of 11", x.same(1, 3), 5);
        Expect.due("unlike of 11", x.unlike(3, 1), 6);
        Expect.due("nodes", x.goal(6), 11);
    }

    private static void somes() {
        Choicepoint x = new Choicepoint();
        Expect.index("some of none", () -> x.some(0));
        x.data(0, 0, 0);
        for (int at = 1; at < 12; at++) {
            Expect.due("some", x.some(at - 1), at);
        }
        Expect.due("nodes of some", x.goal(11), 12);
        Expect.state("some of 13", () -> x.some(11));
        Expect.index("some of no node", () -> x.some(12));
        Expect.index("some below", () -> x.some(-1));
        Expect.due("how many were told", x.drop(), 12);
    }

    private static void fullOfNodes() {
        Choicepoint x = new Choicepoint();
        x.function(0, false);
        x.function(2, false);
        for (int at = 0; at < 80; at++) {
            Expect.due("node", x.data(0, 0, 0), at);
        }
        Expect.state("name at 80 nodes", () -> x.name(0));
        Expect.argument("name(6) at 80 nodes", () -> x.name(6));
        Expect.state("data at 80 nodes", () -> x.data(0, 0, 0));
        Expect.argument("data(7) at 80 nodes", () -> x.data(7, 0, 0));
        Expect.index("data of no node at 80 nodes", () -> x.data(2, 80, 0));
        Expect.state("call at 80 nodes", () -> x.call(0, 0, 0));
        Expect.index("call of no node at 80 nodes", () -> x.call(1, 0, 80));
        Expect.index("call of no function at 80 nodes", () -> x.call(2, 0, 0));
        Expect.state("either at 80 nodes", () -> x.either(79, 79));
        Expect.index("either of no node at 80 nodes", () -> x.either(80, 0));
        Expect.state("same at 80 nodes", () -> x.same(0, 0));
        Expect.state("unlike at 80 nodes", () -> x.unlike(0, 0));
        Expect.state("some at 80 nodes", () -> x.some(0));
        Expect.due("rule at 80 nodes", x.rule(0, 0, 0, 79), 0);
        Expect.due("drop", x.drop(), 80);
        Expect.due("name", x.name(1), 0);
    }

    private static void drops() {
        Choicepoint x = new Choicepoint();
        x.function(1, false);
        int zero = x.data(0, 0, 0);
        int one = x.data(1, 0, 0);
        x.rule(0, zero, 0, one);
        x.goal(x.call(0, zero, 0));
        Expect.due("search", x.search(0, 0), 1);
        Expect.due("drop", x.drop(), 3);
        Expect.due("drop again", x.drop(), 0);
        Expect.index("a node that was dropped", () -> x.goal(0));
        Expect.index("a node that was dropped, as a part", () -> x.data(2, 0, 0));
        Expect.due("the value stays", x.part(0, 0), 1);
        x.data(3, x.data(0, 0, 0), 0);
        Expect.due("search after drop", x.search(0, 0), 1);
        Expect.due("the goal and the rule stay", x.part(0, 0), 1);
        Expect.due("within after drop", x.within(0), 1);
        Expect.due("unrule after drop", x.unrule(0), 0);
    }

    private static void goals() {
        Choicepoint x = new Choicepoint();
        int zero = x.data(0, 0, 0);
        int choice = x.either(zero, x.data(2, zero, 0));
        Expect.due("nodes of the goal", x.goal(choice), 4);
        Expect.due("search", x.search(0, 0), 2);
        Expect.index("goal of no node", () -> x.goal(4));
        Expect.index("goal below", () -> x.goal(-1));
        Expect.row("values after what threw", Expect.parts(x, 1), "2 0");
        Expect.due("goal again", x.goal(zero), 1);
        Expect.index("values are no more", () -> x.part(0, 0));
        Expect.index("steps of values are no more", () -> x.steps(0));
        Expect.index("bounds of values are no more", () -> x.bound(0, 0, 0));
        Expect.index("fates of values are no more", () -> x.fate(0, 0));
        Expect.due("numbers stay", x.count(0), 2);
        Expect.due("numbers of all runs stay", x.count(4), 3);
        Expect.due("numbers of the row stay", x.count(5), 1);
        Expect.due("search of the new goal", x.search(0, 0), 1);
        Expect.row("value of the new goal", Expect.parts(x, 0), "0");
    }
}
