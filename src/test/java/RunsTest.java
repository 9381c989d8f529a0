/** Runs, as the Terms tell them: forcing, matching, narrowing, uniting, asking, steps and decisions. */
public final class RunsTest {
    private static Choicepoint x;
    private static int zero;
    private static int one;
    private static int a;
    private static int b;
    private static int c;

    public static void main(String[] args) {
        values();
        lazy();
        choicesAreShared();
        choicesApart();
        matching();
        matchingInOrder();
        narrowing();
        rigid();
        freshNames();
        uniting();
        occursCheck();
        unitingShared();
        unlikeness();
        forcedOnceAndShared();
        mostSteps();
        mostStepsOfUniting();
        mostDecisions();
        longData();
        Expect.end("RunsTest");
    }

    private static void begin() {
        x = new Choicepoint();
        retell();
    }

    /** The same nodes have the same numbers again. */
    private static void retell() {
        x.drop();
        zero = x.data(0, 0, 0);
        one = x.data(1, 0, 0);
        a = x.name(0);
        b = x.name(1);
        c = x.name(2);
    }

    private static int pair(int left, int right) {
        return x.data(4, left, right);
    }

    private static int next(int part) {
        return x.data(2, part, 0);
    }

    private static int nullary() {
        return x.function(0, false);
    }

    private static void values() {
        begin();
        Expect.outcomes("data", x, pair(x.data(3, zero, 0), one), "1 0 0 0 1");
        Expect.row("data", Expect.parts(x, 0), "4 3 0 1");
        Expect.due("no steps", x.steps(0), 0);
        Expect.row("no decisions", Expect.fates(x, 0), "");
        Expect.outcomes("a name", x, a, "1 0 0 0 1");
        Expect.row("a name", Expect.parts(x, 0), "10");
        int fail = nullary();
        Expect.outcomes("a call without rules", x, x.call(fail, 0, 0), "0 1 0 0 1");
        Expect.outcomes("a part without rules", x, pair(zero, x.call(fail, 0, 0)), "0 1 0 0 1");
        Expect.outcomes("a choice ahead of it", x, pair(x.either(zero, one), x.call(fail, 0, 0)), "0 2 0 0 3");
        Expect.outcomes("a choice behind it", x, pair(x.call(fail, 0, 0), x.either(zero, one)), "0 1 0 0 1");
    }

    private static void lazy() {
        begin();
        int fail = nullary();
        int first = x.function(2, false);
        x.rule(first, a, b, a);
        Expect.outcomes("what is not asked for", x, x.call(first, zero, x.call(fail, 0, 0)), "1 0 0 0 1");
        Expect.due("a step", x.steps(0), 1);
        Expect.outcomes("what is asked for", x, x.call(first, x.call(fail, 0, 0), zero), "0 1 0 0 1");
        int head = x.function(1, false);
        x.rule(head, pair(a, b), 0, a);
        Expect.outcomes("a part that is not asked for", x, x.call(head, pair(one, x.call(fail, 0, 0)), 0), "1 0 0 0 1");
        int deep = x.function(1, false);
        x.rule(deep, next(a), 0, zero);
        Expect.outcomes("a part below a pattern", x, x.call(deep, next(x.call(fail, 0, 0)), 0), "1 0 0 0 1");
    }

    private static void choicesAreShared() {
        begin();
        int twice = x.function(1, false);
        x.rule(twice, a, 0, pair(a, a));
        Expect.outcomes("a choice shared", x, x.call(twice, x.either(zero, one), 0), "2 0 0 0 3");
        Expect.row("first", Expect.parts(x, 0), "4 0 0");
        Expect.row("second", Expect.parts(x, 1), "4 1 1");
        Expect.row("fate of the first", Expect.fates(x, 0), "0");
        Expect.row("fate of the second", Expect.fates(x, 1), "1");
    }

    private static void choicesApart() {
        begin();
        int choice = x.either(zero, one);
        Expect.outcomes("a node told as two parts", x, pair(choice, choice), "4 0 0 0 7");
        Expect.row("second", Expect.parts(x, 1), "4 0 1");
        Expect.row("third", Expect.parts(x, 2), "4 1 0");
        Expect.row("fate of the third", Expect.fates(x, 2), "1 0");
    }

    private static void matching() {
        begin();
        int f = x.function(2, false);
        x.rule(f, zero, a, next(a));
        x.rule(f, next(b), pair(a, zero), pair(a, b));
        Expect.outcomes("the first rule", x, x.call(f, zero, one), "1 1 0 0 3");
        Expect.row("the first rule", Expect.parts(x, 0), "2 1");
        Expect.outcomes("the second rule", x, x.call(f, next(c), pair(one, zero)), "1 1 0 0 3");
        Expect.row("the second rule", Expect.parts(x, 0), "4 1 10");
        Expect.outcomes("neither", x, x.call(f, one, pair(one, zero)), "0 2 0 0 3");
        Expect.outcomes("neither, by a part", x, x.call(f, next(zero), pair(one, one)), "0 2 0 0 3");
        Expect.outcomes("kinds with as many parts are unlike",
                x, x.call(f, x.data(3, zero, 0), pair(one, zero)), "0 2 0 0 3");
    }

    /** The first part fails, so the choice in the second one is not come to. */
    private static void matchingInOrder() {
        begin();
        int f = x.function(2, false);
        x.rule(f, zero, zero, one);
        int choice = x.either(zero, one);
        Expect.outcomes("first ahead of second", x, x.call(f, one, choice), "0 1 0 0 1");
        Expect.outcomes("second behind first", x, x.call(f, choice, one), "0 2 0 0 3");
        int g = x.function(1, false);
        x.rule(g, pair(zero, zero), 0, one);
        Expect.outcomes("first part ahead of second", x, x.call(g, pair(one, choice), 0), "0 1 0 0 1");
        Expect.outcomes("second part behind first", x, x.call(g, pair(choice, one), 0), "0 2 0 0 3");
    }

    private static void narrowing() {
        begin();
        int f = x.function(1, false);
        x.rule(f, zero, 0, one);
        x.rule(f, pair(next(a), b), 0, pair(b, a));
        Expect.outcomes("narrowing", x, x.call(f, c, 0), "2 0 0 0 3");
        Expect.row("first", Expect.parts(x, 0), "1");
        Expect.row("first, the name", Expect.bounds(x, 0, 2), "0");
        Expect.row("second", Expect.parts(x, 1), "4 10 11");
        Expect.row("second, the name", Expect.bounds(x, 1, 2), "4 2 10 11");
        Expect.row("a name that is not there", Expect.bounds(x, 1, 0), "");
        Expect.due("a step", x.steps(1), 1);
        Expect.outcomes("a name twice", x, pair(x.call(f, c, 0), c), "2 0 0 0 3");
        Expect.row("a name twice", Expect.parts(x, 1), "4 4 10 11 4 2 11 10");
    }

    private static void rigid() {
        begin();
        int f = x.function(2, true);
        x.rule(f, a, zero, a);
        Expect.outcomes("an open thing by data floats", x, x.call(f, zero, a), "0 0 1 0 1");
        Expect.outcomes("an open thing by a name does not", x, x.call(f, b, zero), "1 0 0 0 1");
        Expect.outcomes("an open part of data", x, x.call(f, zero, next(a)), "0 1 0 0 1");
        x.rule(f, b, one, b);
        Expect.outcomes("a decision ahead", x, x.call(f, zero, a), "0 0 2 0 3");
        int g = x.function(1, false);
        x.rule(g, zero, 0, one);
        Expect.outcomes("others narrow", x, pair(x.call(g, c, 0), x.call(f, one, c)), "1 1 0 0 3");
        Expect.outcomes("but not behind it", x, pair(x.call(f, one, c), x.call(g, c, 0)), "0 0 2 0 3");
        Expect.outcomes("a rigid part that floats is not asked for",
                x, pair(x.call(g, zero, 0), x.some(zero)), "1 0 0 0 1");
    }

    private static void freshNames() {
        begin();
        int f = nullary();
        x.rule(f, 0, 0, pair(a, pair(b, a)));
        Expect.outcomes("names that are not in the patterns", x, x.call(f, 0, 0), "1 0 0 0 1");
        Expect.row("the same one twice", Expect.parts(x, 0), "4 10 4 11 10");
        Expect.outcomes("new ones by each call", x, pair(x.call(f, 0, 0), x.call(f, 0, 0)), "1 0 0 0 1");
        Expect.row("new ones", Expect.parts(x, 0), "4 4 10 4 11 10 4 12 4 13 12");
        Expect.outcomes("not those of the goal", x, pair(a, x.call(f, 0, 0)), "1 0 0 0 1");
        Expect.row("not those of the goal", Expect.parts(x, 0), "4 10 4 11 4 12 11");
        Expect.row("in a row of its own", Expect.bounds(x, 0, 0), "10");
    }

    private static void uniting() {
        begin();
        outcomeAndSteps("the same name", x.same(a, a), "1 0 0 0 1", 0);
        Expect.row("data of the kind 1", Expect.parts(x, 0), "1");
        outcomeAndSteps("two names", x.same(a, b), "1 0 0 0 1", 1);
        outcomeAndSteps("a name and data", x.same(a, next(zero)), "1 0 0 0 1", 1);
        Expect.row("the name", Expect.bounds(x, 0, 0), "2 0");
        outcomeAndSteps("data and a name", x.same(next(zero), a), "1 0 0 0 1", 1);
        Expect.row("the name again", Expect.bounds(x, 0, 0), "2 0");
        outcomeAndSteps("alike data", x.same(pair(zero, one), pair(zero, one)), "1 0 0 0 1", 3);
        outcomeAndSteps("unlike kinds", x.same(zero, one), "0 1 0 0 1", 0);
        outcomeAndSteps("unlike parts", x.same(pair(zero, one), pair(zero, zero)), "0 1 0 0 1", 0);
        outcomeAndSteps("unlike kinds of two", x.same(pair(zero, one), x.data(5, zero, one)), "0 1 0 0 1", 0);
        retell();
        outcomeAndSteps("crosswise", x.same(pair(a, one), pair(zero, b)), "1 0 0 0 1", 3);
        Expect.row("crosswise, first", Expect.bounds(x, 0, 0), "0");
        Expect.row("crosswise, second", Expect.bounds(x, 0, 1), "1");
        outcomeAndSteps("a name twice, unlike", x.same(pair(a, a), pair(zero, one)), "0 1 0 0 1", 0);
        outcomeAndSteps("names by names", x.same(pair(a, b), pair(b, next(c))), "1 0 0 0 1", 3);
        Expect.row("names by names", Expect.bounds(x, 0, 0), "2 10");
        int choice = x.either(zero, one);
        outcomeAndSteps("both made whole ahead", x.same(pair(zero, choice), pair(one, choice)), "0 4 0 0 7", 0);
        outcomeAndSteps("within data", x.data(2, x.same(a, zero), 0), "1 0 0 0 1", 1);
        Expect.row("within data", Expect.parts(x, 0), "2 1");
    }

    private static void outcomeAndSteps(String what, int goal, String outcome, int steps) {
        Expect.outcomes(what, x, goal, outcome);
        if (x.count(0) > 0) {
            Expect.due(what + ": steps", x.steps(0), steps);
        }
    }

    private static void occursCheck() {
        begin();
        outcomeAndSteps("a name in data", x.same(a, next(a)), "0 1 0 0 1", 0);
        outcomeAndSteps("data with the name", x.same(pair(zero, a), a), "0 1 0 0 1", 0);
        outcomeAndSteps("deep", x.same(a, pair(zero, next(pair(b, a)))), "0 1 0 0 1", 0);
        outcomeAndSteps("another name", x.same(a, pair(b, c)), "1 0 0 0 1", 1);
        outcomeAndSteps("by what it became", x.same(pair(a, b), pair(b, next(a))), "0 1 0 0 1", 0);
        outcomeAndSteps("in both", x.same(pair(a, b), pair(next(b), next(a))), "0 1 0 0 1", 0);
        int first = x.function(2, false);
        x.rule(first, a, b, a);
        outcomeAndSteps("gone when it is made whole", x.same(a, x.call(first, next(b), a)), "1 0 0 0 1", 2);
    }

    /** What is the same thing is not gone through: two steps for the pair and its first part are all. */
    private static void unitingShared() {
        begin();
        int f = x.function(2, false);
        x.rule(f, a, b, x.same(pair(a, b), pair(a, zero)));
        outcomeAndSteps("a part that is the same thing", x.call(f, next(next(one)), zero), "1 0 0 0 1", 3);
        int g = x.function(1, false);
        x.rule(g, a, 0, x.same(a, a));
        outcomeAndSteps("the same thing", x.call(g, pair(zero, one), 0), "1 0 0 0 1", 1);
        outcomeAndSteps("the same thing, made whole", x.call(g, x.either(zero, one), 0), "2 0 0 0 3", 1);
        int h = x.function(1, false);
        x.rule(h, a, 0, x.unlike(a, a));
        outcomeAndSteps("the same thing is not unlike", x.call(h, pair(zero, b), 0), "0 1 0 0 1", 0);
    }

    private static void unlikeness() {
        begin();
        outcomeAndSteps("unlike kinds", x.unlike(zero, one), "1 0 0 0 1", 1);
        Expect.row("data of the kind 1", Expect.parts(x, 0), "1");
        outcomeAndSteps("alike", x.unlike(zero, zero), "0 1 0 0 1", 0);
        outcomeAndSteps("alike with parts", x.unlike(pair(zero, one), pair(zero, one)), "0 1 0 0 1", 0);
        outcomeAndSteps("unlike first parts", x.unlike(pair(zero, a), pair(one, b)), "1 0 0 0 1", 2);
        outcomeAndSteps("unlike second parts", x.unlike(pair(zero, one), pair(zero, zero)), "1 0 0 0 1", 3);
        outcomeAndSteps("an open first part", x.unlike(pair(a, zero), pair(one, one)), "0 0 1 0 1", 0);
        outcomeAndSteps("a name and data", x.unlike(a, zero), "0 0 1 0 1", 0);
        outcomeAndSteps("data and a name", x.unlike(zero, a), "0 0 1 0 1", 0);
        outcomeAndSteps("two names", x.unlike(a, b), "0 0 1 0 1", 0);
        outcomeAndSteps("the same name", x.unlike(a, a), "0 1 0 0 1", 0);
        outcomeAndSteps("the same name within", x.unlike(pair(a, zero), pair(a, one)), "1 0 0 0 1", 2);
        outcomeAndSteps("deep ahead", x.unlike(pair(next(zero), one), pair(next(zero), zero)), "1 0 0 0 1", 4);
        outcomeAndSteps("what is left is not asked",
                pair(x.unlike(pair(zero, next(a)), pair(one, next(b))), zero), "1 0 0 0 1", 2);
        Expect.row("what is left is not asked", Expect.parts(x, 0), "4 1 0");
        retell();
        int choice = x.either(zero, one);
        outcomeAndSteps("both made whole ahead", x.unlike(pair(zero, choice), pair(one, choice)), "4 0 0 0 7", 2);
        int fail = nullary();
        outcomeAndSteps("a failure in the second", x.unlike(zero, next(x.call(fail, 0, 0))), "0 1 0 0 1", 0);
    }

    private static void forcedOnceAndShared() {
        begin();
        int f = x.function(0, false);
        int twice = x.function(1, false);
        x.rule(f, 0, 0, next(zero));
        x.rule(twice, a, 0, pair(a, pair(a, a)));
        outcomeAndSteps("a call shared", x.call(twice, x.call(f, 0, 0), 0), "1 0 0 0 1", 2);
        Expect.row("a call shared", Expect.parts(x, 0), "4 2 0 4 2 0 2 0");
        int call = x.call(f, 0, 0);
        outcomeAndSteps("a call told twice", pair(call, call), "1 0 0 0 1", 2);
        int id = x.function(1, false);
        x.rule(id, a, 0, a);
        outcomeAndSteps("a call of a call", x.call(id, x.call(id, a, 0), 0), "1 0 0 0 1", 2);
        Expect.row("a call of a call", Expect.parts(x, 0), "10");
    }

    /** One call of it takes 11 steps, of the third 100. */
    private static int tellManySteps() {
        int id = x.function(1, false);
        int eleven = x.function(1, false);
        int hundred = x.function(1, false);
        x.rule(id, a, 0, a);
        int ids = a;
        for (int at = 0; at < 10; at++) {
            ids = x.call(id, ids, 0);
        }
        x.rule(eleven, a, 0, ids);
        int elevens = a;
        for (int at = 0; at < 9; at++) {
            elevens = x.call(eleven, elevens, 0);
        }
        x.rule(hundred, a, 0, elevens);
        return hundred;
    }

    private static void mostSteps() {
        begin();
        int hundred = tellManySteps();
        int all = x.call(hundred, next(zero), 0);
        outcomeAndSteps("100 steps", all, "1 0 0 0 1", 100);
        Expect.row("100 steps", Expect.parts(x, 0), "2 0");
        outcomeAndSteps("101 steps", x.call(0, all, 0), "0 0 0 1 1", 0);
        outcomeAndSteps("a step behind 100", pair(all, x.call(0, zero, 0)), "0 0 0 1 1", 0);
        outcomeAndSteps("no step behind 100", pair(all, x.same(b, b)), "1 0 0 0 1", 100);
        outcomeAndSteps("uniting behind 100", pair(all, x.same(b, c)), "0 0 0 1 1", 0);
        outcomeAndSteps("asking behind 100", pair(all, x.unlike(zero, one)), "0 0 0 1 1", 0);
        outcomeAndSteps("floating behind 100", pair(all, x.unlike(zero, b)), "0 0 1 0 1", 0);
        outcomeAndSteps("a run within behind 100", pair(all, x.some(zero)), "0 0 0 1 1", 0);
        outcomeAndSteps("a decision behind 100", pair(all, x.either(zero, one)), "2 0 0 0 3", 100);
        int fail = nullary();
        outcomeAndSteps("a failure behind 100", pair(all, x.call(fail, 0, 0)), "0 1 0 0 1", 0);
        int loop = nullary();
        x.rule(loop, 0, 0, x.call(loop, 0, 0));
        outcomeAndSteps("without an end", x.call(loop, 0, 0), "0 0 0 1 1", 0);
    }

    /** Things that are shared so that their parts, told one by one, are far more than the steps. */
    private static void mostStepsOfUniting() {
        begin();
        int twice = x.function(1, false);
        x.rule(twice, a, 0, pair(a, a));
        int big = zero;
        for (int at = 0; at < 9; at++) {
            big = x.call(twice, big, 0);
        }
        outcomeAndSteps("made whole once", big, "1 0 0 0 1", 9);
        Expect.due("the first 40 numbers", x.part(0, 39) >= 0 ? 1 : 0, 1);
        Expect.due("behind them", x.part(0, 40), Choicepoint.NONE);
        int five = zero;
        for (int at = 0; at < 4; at++) {
            five = x.call(twice, five, 0);
        }
        int goal = x.same(five, five);
        outcomeAndSteps("uniting what is shared", goal, "1 0 0 0 1", 8 + 31);
        outcomeAndSteps("a name in what is shared", x.same(b, big), "1 0 0 0 1", 10);
        retell();
        int four = x.function(1, false);
        x.rule(four, a, 0, pair(pair(a, a), pair(a, a)));
        int huge = b;
        for (int at = 0; at < 9; at++) {
            huge = x.call(four, huge, 0);
        }
        outcomeAndSteps("far more parts than things", huge, "1 0 0 0 1", 9);
        outcomeAndSteps("a name that is not in it", x.same(c, huge), "1 0 0 0 1", 10);
        outcomeAndSteps("a name that is in it", x.same(b, huge), "0 1 0 0 1", 0);
        outcomeAndSteps("16 times as many parts", x.call(four, x.call(four, huge, 0), 0), "1 0 0 0 1", 11);
    }

    private static void mostDecisions() {
        begin();
        int f = nullary();
        x.rule(f, 0, 0, x.call(f, 0, 0));
        x.rule(f, 0, 0, zero);
        x.goal(x.call(f, 0, 0));
        Expect.due("40 decisions", x.search(Choicepoint.DEPTH, 0), 40);
        Expect.due("the 41st is cut", x.count(3), 1);
        Expect.due("all runs", x.count(4), 81);
        Expect.due("the last decision", x.fate(0, 39), 1);
        Expect.due("the one ahead", x.fate(0, 38), 0);
        Expect.due("behind the last one", x.fate(0, 40), Choicepoint.NONE);
        Expect.due("steps", x.steps(0), 40);
        Expect.due("decisions of the tenth value", x.fate(9, 30), 1);
        Expect.due("behind those of the tenth value", x.fate(9, 31), Choicepoint.NONE);
    }

    /** Data far deeper than calls could be nested: made whole, looked through, united and asked. */
    private static void longData() {
        begin();
        int f = nullary();
        int deep = x.call(f, 0, 0);
        for (int at = 0; at < 11; at++) {
            deep = next(deep);
        }
        x.rule(f, 0, 0, deep);
        outcomeAndSteps("data without an end", x.call(f, 0, 0), "0 0 0 1 1", 0);
        retell();
        int chain = x.function(2, false);
        int more = b;
        for (int at = 0; at < 8; at++) {
            more = next(more);
        }
        x.rule(chain, next(a), b, x.call(chain, a, more));
        x.rule(chain, zero, b, b);
        int count = zero;
        for (int at = 0; at < 7; at++) {
            count = next(count);
        }
        outcomeAndSteps("a name bound to it", x.same(c, x.call(chain, count, b)), "1 8 0 0 17", 9);
        Expect.due("the 40th number", x.bound(0, 2, 39), 2);
        Expect.due("a 41st number", x.bound(0, 2, 40), Choicepoint.NONE);
        outcomeAndSteps("a name deep in it", x.same(c, x.call(chain, count, c)), "0 9 0 0 17", 0);
        int twice = x.function(1, false);
        x.rule(twice, a, 0, x.same(a, x.call(chain, next(next(zero)), zero)));
        outcomeAndSteps("united", x.call(twice, x.call(chain, next(next(zero)), b), 0), "1 6 0 0 13", 1 + 3 + 3 + 17);
    }
}
