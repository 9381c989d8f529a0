/** Promises 11 to 13: rules, and functions that can be many. */
public final class RulesTest {
    public static void main(String[] args) {
        numbers();
        noNodes();
        noPatterns();
        namesTwice();
        mostRules();
        unrules();
        manyByPatterns();
        manyByRightSides();
        manyByCalls();
        Expect.end("RulesTest");
    }

    private static void numbers() {
        Choicepoint x = new Choicepoint();
        x.function(0, false);
        x.function(1, false);
        x.data(0, 0, 0);
        Expect.due("first rule", x.rule(0, -1, -1, 0), 0);
        Expect.due("second rule", x.rule(0, 99, 99, 0), 1);
        Expect.due("first rule of another", x.rule(1, 0, -1, 0), 0);
        Expect.due("third rule", x.rule(0, 0, 0, 0), 2);
    }

    private static void noNodes() {
        Choicepoint x = new Choicepoint();
        x.function(0, false);
        x.function(1, false);
        x.function(2, false);
        x.data(0, 0, 0);
        x.some(0);
        Expect.index("rule of no function", () -> x.rule(3, 0, 0, 0));
        Expect.index("rule below", () -> x.rule(-1, 0, 0, 0));
        Expect.index("rule of no right side", () -> x.rule(0, 0, 0, 2));
        Expect.index("rule of a right side below", () -> x.rule(0, 0, 0, -1));
        Expect.index("rule of no first pattern", () -> x.rule(1, 2, 0, 0));
        Expect.index("rule of no first pattern of two", () -> x.rule(2, -1, 0, 0));
        Expect.index("rule of no second pattern", () -> x.rule(2, 0, 2, 0));
        Expect.index("rule of no pattern, and no right side", () -> x.rule(2, 1, 0, 2));
        Expect.due("a rule after what threw", x.rule(2, 0, 0, 1), 0);
    }

    private static void noPatterns() {
        Choicepoint x = new Choicepoint();
        x.function(0, false);
        x.function(1, false);
        x.function(2, false);
        int zero = x.data(0, 0, 0);
        int[] none = {x.call(0, 0, 0), x.either(zero, zero), x.same(zero, zero), x.unlike(zero, zero), x.some(zero)};
        for (int node : none) {
            int deep = x.data(4, zero, x.data(2, node, 0));
            Expect.argument("first pattern " + node, () -> x.rule(1, node, 0, zero));
            Expect.argument("pattern with " + node + " in it", () -> x.rule(1, deep, 0, zero));
            Expect.argument("first pattern of two " + node, () -> x.rule(2, node, zero, zero));
            Expect.argument("second pattern " + node, () -> x.rule(2, zero, node, zero));
            Expect.due("one that does not matter", x.rule(0, node, node, node), 0);
            Expect.due("none is left", x.unrule(0), 0);
        }
        Expect.due("a rule after what threw", x.rule(1, zero, none[0], zero), 0);
    }

    private static void namesTwice() {
        Choicepoint x = new Choicepoint();
        x.function(1, false);
        x.function(2, false);
        int a = x.name(0);
        int b = x.name(1);
        int aa = x.data(4, a, a);
        int ab = x.data(4, a, b);
        int ba = x.data(5, x.data(2, b, 0), a);
        Expect.argument("twice in the first", () -> x.rule(0, aa, 0, a));
        Expect.argument("in both", () -> x.rule(1, a, a, a));
        Expect.argument("in both, deep", () -> x.rule(1, ab, ba, a));
        Expect.argument("twice in the second", () -> x.rule(1, b, aa, a));
        Expect.due("unlike names", x.rule(1, a, b, aa), 0);
        Expect.due("a pattern that does not matter", x.rule(0, a, a, aa), 0);
        Expect.due("twice in the right side alone", x.rule(0, ab, 0, aa), 1);
    }

    private static void mostRules() {
        Choicepoint x = new Choicepoint();
        x.function(0, false);
        x.function(1, false);
        int zero = x.data(0, 0, 0);
        int call = x.call(0, 0, 0);
        for (int at = 0; at < 24; at++) {
            Expect.due("rule", x.rule(at % 2, zero, 0, zero), at / 2);
        }
        Expect.state("a 25th rule", () -> x.rule(0, zero, 0, zero));
        Expect.state("a 25th rule of another", () -> x.rule(1, zero, 0, zero));
        Expect.argument("a 25th rule, no pattern", () -> x.rule(1, call, 0, zero));
        Expect.index("a 25th rule, no right side", () -> x.rule(1, call, 0, 9));
        Expect.due("unrule", x.unrule(1), 11);
        Expect.due("a 24th rule", x.rule(0, zero, 0, zero), 12);
        Expect.state("a 25th rule again", () -> x.rule(1, zero, 0, zero));
        Expect.outcomes("a decision of 13 ways", x, call, "13 0 0 0 14");
    }

    private static void unrules() {
        Choicepoint x = new Choicepoint();
        x.function(0, false);
        int zero = x.data(0, 0, 0);
        int one = x.data(1, 0, 0);
        int call = x.call(0, 0, 0);
        Expect.state("unrule of none", () -> x.unrule(0));
        x.rule(0, 0, 0, zero);
        x.rule(0, 0, 0, one);
        Expect.outcomes("both rules", x, call, "2 0 0 0 3");
        Expect.index("unrule of no function", () -> x.unrule(1));
        Expect.index("unrule below", () -> x.unrule(-1));
        Expect.due("unrule", x.unrule(0), 1);
        Expect.outcomes("the first rule", x, call, "1 0 0 0 1");
        Expect.row("what stays is the first", Expect.parts(x, 0), "0");
        Expect.due("unrule", x.unrule(0), 0);
        Expect.outcomes("no rule", x, call, "0 1 0 0 1");
        Expect.state("unrule of none", () -> x.unrule(0));
        Expect.due("rule again", x.rule(0, 0, 0, one), 0);
    }

    private static void manyByPatterns() {
        Choicepoint x = new Choicepoint();
        x.function(2, false);
        x.function(0, false);
        int zero = x.data(0, 0, 0);
        int one = x.data(1, 0, 0);
        int a = x.name(0);
        int b = x.name(1);
        int sa = x.data(2, a, 0);
        int s0 = x.data(2, zero, 0);
        int s1 = x.data(2, one, 0);
        int pair01 = x.data(4, zero, one);
        int pairA0 = x.data(4, a, zero);
        int pairA1 = x.data(4, sa, one);
        int pairAB = x.data(4, a, b);
        int zeroAny = x.data(5, zero, a);
        int onePair = x.data(5, one, pair01);
        int zeroPair = x.data(5, zero, pair01);
        meets(x, zero, zero, zero, zero, 1);
        meets(x, zero, zero, zero, one, 0);
        meets(x, one, zero, zero, zero, 0);
        meets(x, a, zero, one, zero, 1);
        meets(x, a, zero, one, one, 0);
        meets(x, sa, b, s0, b, 1);
        meets(x, s1, b, s0, b, 0);
        meets(x, sa, b, zero, b, 0);
        meets(x, pair01, b, pairA0, b, 0);
        meets(x, pair01, b, pairA1, b, 0);
        meets(x, pair01, zero, pairAB, zero, 1);
        meets(x, pairA1, zero, pairAB, zero, 1);
        meets(x, zero, pairA0, zero, pairA1, 0);
        meets(x, a, b, b, a, 1);
        meets(x, zeroAny, zero, onePair, zero, 0);
        meets(x, onePair, zero, zeroAny, zero, 0);
        meets(x, zeroAny, zero, zeroPair, zero, 1);
        meets(x, zeroPair, zero, zeroAny, zero, 1);
        meets(x, zeroPair, zero, onePair, zero, 0);
        x.rule(1, 0, 0, zero);
        Expect.due("one rule without patterns", x.many(), 0);
        x.rule(1, 0, 0, zero);
        Expect.due("two rules without patterns", x.many(), 2);
        x.unrule(1);
        Expect.due("one again", x.many(), 0);
    }

    /** Both rules are told with one between that meets neither, or with one ahead. */
    private static void meets(Choicepoint x, int a, int b, int otherA, int otherB, int want) {
        x.drop();
        retell(x);
        int apart = 14;
        x.rule(0, a, b, 0);
        x.rule(0, apart, apart, 0);
        x.rule(0, otherA, otherB, 0);
        Expect.due("patterns " + a + " " + b + " and " + otherA + " " + otherB, x.many(), want);
        x.unrule(0);
        x.unrule(0);
        x.unrule(0);
        x.rule(0, apart, apart, 0);
        x.rule(0, a, b, 0);
        x.rule(0, otherA, otherB, 0);
        Expect.due("patterns " + a + " " + b + " and " + otherA + " " + otherB + ", one ahead", x.many(), want);
        x.unrule(0);
        x.unrule(0);
        x.unrule(0);
    }

    /** The nodes of the patterns have their numbers again. */
    private static void retell(Choicepoint x) {
        int zero = x.data(0, 0, 0);
        int one = x.data(1, 0, 0);
        int a = x.name(0);
        int b = x.name(1);
        int sa = x.data(2, a, 0);
        x.data(2, zero, 0);
        x.data(2, one, 0);
        x.data(4, zero, one);
        x.data(4, a, zero);
        x.data(4, sa, one);
        int pairAB = x.data(4, a, b);
        x.data(5, zero, a);
        x.data(5, one, pairAB - 3);
        x.data(5, zero, pairAB - 3);
        x.data(3, zero, 0);
    }

    private static void manyByRightSides() {
        Choicepoint x = new Choicepoint();
        x.function(1, false);
        int zero = x.data(0, 0, 0);
        int a = x.name(0);
        int b = x.name(1);
        int choice = x.either(zero, zero);
        right(x, a, 0);
        right(x, b, 1);
        right(x, x.data(4, a, b), 1);
        right(x, x.data(4, a, a), 0);
        right(x, choice, 1);
        right(x, x.data(2, x.same(choice, zero), 0), 1);
        right(x, x.some(choice), 0);
        right(x, x.some(b), 0);
        right(x, x.data(4, x.some(choice), b), 1);
        right(x, x.data(4, choice, x.some(b)), 1);
        right(x, x.unlike(a, zero), 0);
        right(x, x.unlike(a, x.some(x.either(a, b))), 0);
    }

    private static void right(Choicepoint x, int node, int want) {
        x.rule(0, 1, 0, node);
        Expect.due("many by right side " + node, x.many(), want);
        x.unrule(0);
    }

    private static void manyByCalls() {
        Choicepoint x = new Choicepoint();
        for (int at = 0; at < 5; at++) {
            x.function(0, false);
        }
        int zero = x.data(0, 0, 0);
        int choice = x.either(zero, zero);
        int[] calls = new int[5];
        for (int at = 0; at < 5; at++) {
            calls[at] = x.call(at, 0, 0);
        }
        x.rule(0, 0, 0, calls[1]);
        x.rule(1, 0, 0, x.data(2, calls[2], 0));
        x.rule(2, 0, 0, calls[3]);
        x.rule(4, 0, 0, x.some(calls[0]));
        Expect.due("calls of what is not many", x.many(), 0);
        x.rule(3, 0, 0, calls[0]);
        Expect.due("calls in a circle", x.many(), 0);
        x.unrule(3);
        x.rule(3, 0, 0, choice);
        Expect.due("calls of what is many", x.many(), 15);
        x.rule(4, 0, 0, zero);
        Expect.due("two rules more", x.many(), 31);
    }
}
