/** SOME: runs within runs, whose things are whose, and what becomes of those around. */
public final class SomeTest {
    private static Choicepoint x;
    private static int zero;
    private static int one;
    private static int a;
    private static int b;
    private static int fail;

    public static void main(String[] args) {
        values();
        choicesOfItsOwn();
        choicesFromWithout();
        failuresFromWithout();
        whatComesOfThingsFromWithout();
        openThingsOfCallsFromWithout();
        openThingsOfPatternsFromWithout();
        openThingsFromWithout();
        unitingAcross();
        narrowingFromWithout();
        forcedStaysSo();
        mostRuns();
        mostDecisions();
        decisionsApart();
        nested();
        nestedBetweenDecisions();
        nestedAround();
        floatsAndCuts();
        namesOfTheGoal();
        Expect.end("SomeTest");
    }

    private static void begin() {
        x = new Choicepoint();
        zero = x.data(0, 0, 0);
        one = x.data(1, 0, 0);
        a = x.name(0);
        b = x.name(1);
        x.function(0, false);
        fail = x.call(0, 0, 0);
    }

    private static int pair(int left, int right) {
        return x.data(4, left, right);
    }

    private static void goal(String what, int goal, String outcome, String parts, int steps) {
        Expect.outcomes(what, x, goal, outcome);
        if (x.count(0) > 0) {
            Expect.row(what, Expect.parts(x, 0), parts);
            Expect.due(what + ": steps", x.steps(0), steps);
        }
    }

    private static void values() {
        begin();
        goal("of data", x.some(pair(zero, one)), "1 0 0 0 1", "1", 1);
        goal("of a failure", x.some(fail), "1 0 0 0 1", "0", 1);
        goal("of a part that fails", x.some(pair(zero, fail)), "1 0 0 0 1", "0", 1);
        goal("of a name", x.some(a), "1 0 0 0 1", "1", 1);
        goal("of some of a failure", x.some(x.some(fail)), "1 0 0 0 1", "1", 2);
        goal("of alike", x.some(x.unlike(zero, zero)), "1 0 0 0 1", "0", 2);
        goal("of unlike kinds", x.some(x.same(zero, one)), "1 0 0 0 1", "0", 2);
        goal("in data", pair(x.some(fail), x.some(zero)), "1 0 0 0 1", "4 0 1", 2);
        goal("a part that is not asked for", pair(x.some(fail), x.some(pair(fail, fail))), "1 0 0 0 1", "4 0 0", 2);
        int f = x.function(1, false);
        x.rule(f, zero, 0, one);
        goal("matched", x.call(f, x.some(fail), 0), "1 0 0 0 1", "1", 2);
        int g = x.function(1, false);
        x.rule(g, pair(pair(zero, one), zero), 0, one);
        goal("of another kind", x.some(x.call(g, x.data(2, zero, 0), 0)), "1 0 0 0 1", "0", 2);
        goal("of another kind, then that kind", x.some(x.call(g, x.either(zero, pair(pair(zero, one), zero)), 0)),
                "1 0 0 0 1", "1", 4);
        goal("matched, unlike", x.call(f, x.some(zero), 0), "0 1 0 0 1", "", 0);
    }

    private static void choicesOfItsOwn() {
        begin();
        goal("the first way", x.some(x.either(zero, fail)), "1 0 0 0 1", "1", 1);
        goal("the second way", x.some(x.either(fail, zero)), "1 0 0 0 1", "1", 2);
        goal("none", x.some(x.either(fail, fail)), "1 0 0 0 1", "0", 2);
        int coin = x.function(0, false);
        x.rule(coin, 0, 0, zero);
        x.rule(coin, 0, 0, one);
        int toss = x.call(coin, 0, 0);
        goal("two tosses, alike", x.some(x.unlike(toss, zero)), "1 0 0 0 1", "1", 6);
        int both = x.same(pair(toss, toss), pair(one, one));
        goal("the last of four", x.some(both), "1 0 0 0 1", "1", 3 + 2 + 3 + 3 + 3 + 2 + 3 + 3);
        int none = x.same(toss, x.data(2, toss, 0));
        goal("none of four", x.some(none), "1 0 0 0 1", "0", 4 * 4);
        Expect.row("no decisions of the run", Expect.fates(x, 0), "");
    }

    /** What is handed in belongs to the run around: its choices are not those of the SOME. */
    private static void choicesFromWithout() {
        begin();
        int f = x.function(1, false);
        x.rule(f, a, 0, pair(x.some(x.same(a, one)), a));
        Expect.outcomes("an either from without", x, x.call(f, x.either(zero, one), 0), "2 0 0 0 3");
        Expect.row("the first way", Expect.parts(x, 0), "4 0 0");
        Expect.row("the second way", Expect.parts(x, 1), "4 1 1");
        Expect.row("its decision is the run's", Expect.fates(x, 1), "1");
        int coin = x.function(0, false);
        x.rule(coin, 0, 0, zero);
        x.rule(coin, 0, 0, one);
        Expect.outcomes("a call from without", x, x.call(f, x.call(coin, 0, 0), 0), "2 0 0 0 3");
        Expect.row("the call's second way", Expect.parts(x, 1), "4 1 1");
        Expect.due("steps", x.steps(1), 4);
        Expect.outcomes("within itself", x, x.some(x.same(x.call(coin, 0, 0), one)), "1 0 0 0 1");
    }

    private static void failuresFromWithout() {
        begin();
        int f = x.function(1, false);
        x.rule(f, a, 0, x.some(a));
        goal("a failure from without", x.call(f, fail, 0), "0 1 0 0 1", "", 0);
        goal("one way fails", x.call(f, x.either(fail, zero), 0), "1 1 0 0 3", "1", 2);
        int g = x.function(1, false);
        x.rule(g, zero, 0, one);
        goal("a call whose part does not match", x.call(f, x.call(g, one, 0), 0), "0 1 0 0 1", "", 0);
        int h = x.function(1, false);
        x.rule(h, a, 0, x.some(x.call(g, a, 0)));
        goal("a call within whose part is from without", x.call(h, one, 0), "1 0 0 0 1", "0", 3);
        goal("a part from without that fails", x.call(h, fail, 0), "0 1 0 0 1", "", 0);
        goal("SAME from without", x.call(f, x.same(zero, one), 0), "0 1 0 0 1", "", 0);
        goal("UNLIKE from without", x.call(f, x.unlike(one, one), 0), "0 1 0 0 1", "", 0);
        int s = x.function(2, false);
        x.rule(s, a, b, x.some(x.same(a, b)));
        goal("SAME within of things from without", x.call(s, zero, one), "1 0 0 0 1", "0", 3);
    }

    /** What a call from without becomes, be it forced within, belongs to the run around: its ways and failures. */
    private static void whatComesOfThingsFromWithout() {
        begin();
        int f = x.function(1, false);
        x.rule(f, a, 0, x.some(a));
        int c = x.function(0, false);
        int call = x.call(f, x.call(c, 0, 0), 0);
        x.rule(c, 0, 0, x.either(zero, one));
        goal("its EITHER", call, "2 0 0 0 3", "1", 3);
        Expect.row("its EITHER is the run's decision", Expect.fates(x, 0), "0");
        x.unrule(c);
        x.rule(c, 0, 0, x.either(fail, one));
        goal("its EITHER, a way of which fails", call, "1 1 0 0 3", "1", 3);
        x.unrule(c);
        x.rule(c, 0, 0, fail);
        goal("its call without rules", call, "0 1 0 0 1", "", 0);
        x.unrule(c);
        x.rule(c, 0, 0, x.same(zero, one));
        goal("its SAME", call, "0 1 0 0 1", "", 0);
        x.unrule(c);
        x.rule(c, 0, 0, x.unlike(zero, zero));
        goal("its UNLIKE", call, "0 1 0 0 1", "", 0);
        x.unrule(c);
        x.rule(c, 0, 0, x.same(b, x.data(2, b, 0)));
        goal("its SAME of a name in data", call, "0 1 0 0 1", "", 0);
        x.unrule(c);
        x.rule(c, 0, 0, pair(one, fail));
        goal("its part", call, "0 1 0 0 1", "", 0);
        x.unrule(c);
        x.rule(c, 0, 0, x.some(x.either(fail, zero)));
        goal("its SOME", call, "1 0 0 0 1", "1", 5);
        goal("its SOME, two runs below", x.some(call), "1 0 0 0 1", "1", 6);
    }

    /** New open things of its right side belong to the run around: they are narrowed there, not within. */
    private static void openThingsOfCallsFromWithout() {
        begin();
        int free = freeCall();
        int not = x.function(1, false);
        x.rule(not, zero, 0, one);
        int within = x.function(1, false);
        x.rule(within, a, 0, x.some(x.call(not, a, 0)));
        goal("narrowed within", x.call(within, free, 0), "0 0 1 0 1", "", 0);
        int united = x.function(1, false);
        x.rule(united, a, 0, x.some(x.same(a, zero)));
        goal("united within", x.call(united, free, 0), "0 0 1 0 1", "", 0);
        int behind = x.function(1, false);
        x.rule(behind, a, 0, pair(x.some(a), pair(x.call(not, a, 0), a)));
        goal("forced within, narrowed behind", x.call(behind, free, 0), "1 0 0 0 1", "4 1 4 1 0", 4);
        x.unrule(behind);
        x.rule(behind, a, 0, pair(x.some(a), pair(x.same(a, zero), a)));
        goal("forced within, united behind", x.call(behind, free, 0), "1 0 0 0 1", "4 1 4 1 0", 4);
        goal("all of it two runs below", x.some(x.call(behind, free, 0)), "1 0 0 0 1", "1", 5);
    }

    /** The new parts of an open thing from without, narrowed by a call from without, belong to the run around. */
    private static void openThingsOfPatternsFromWithout() {
        begin();
        int part = x.function(1, false);
        x.rule(part, pair(b, x.data(2, a, 0)), 0, pair(a, b));
        int first = x.function(1, false);
        x.rule(first, pair(zero, a), 0, one);
        x.rule(first, pair(one, a), 0, zero);
        int second = x.function(1, false);
        x.rule(second, pair(a, zero), 0, one);
        int narrowed = x.call(part, a, 0);
        int within = x.function(1, false);
        x.rule(within, a, 0, x.some(x.call(second, a, 0)));
        goal("a part narrowed within", x.call(within, narrowed, 0), "0 0 1 0 1", "", 0);
        int behind = x.function(1, false);
        x.rule(behind, a, 0, pair(x.some(a), pair(x.call(second, a, 0), a)));
        goal("forced within, a part narrowed behind", x.call(behind, narrowed, 0), "1 0 0 0 1", "4 1 4 1 4 10 0", 4);
        Expect.row("the name", Expect.bounds(x, 0, 0), "4 0 2 10");
        x.unrule(behind);
        x.rule(behind, a, 0, pair(x.some(a), pair(x.call(first, a, 0), a)));
        goal("the other part narrowed behind", x.call(behind, narrowed, 0), "2 0 0 0 3", "4 1 4 1 4 0 10", 4);
        Expect.row("the name", Expect.bounds(x, 1, 0), "4 10 2 1");
    }

    private static void openThingsFromWithout() {
        begin();
        int f = x.function(1, false);
        x.rule(f, zero, 0, one);
        goal("narrowed within", x.some(x.call(f, a, 0)), "0 0 1 0 1", "", 0);
        goal("its own is narrowed", x.some(x.call(f, freeCall(), 0)), "1 0 0 0 1", "1", 3);
        int id = x.function(1, false);
        x.rule(id, a, 0, a);
        goal("not looked at", x.some(x.call(id, a, 0)), "1 0 0 0 1", "1", 2);
        goal("asked within", x.some(x.unlike(a, zero)), "0 0 1 0 1", "", 0);
        goal("bound ahead", pair(x.same(a, zero), x.some(x.call(f, a, 0))), "1 0 0 0 1", "4 1 1", 3);
        goal("bound behind", pair(x.some(x.call(f, a, 0)), x.same(a, zero)), "0 0 1 0 1", "", 0);
        goal("floating in one of the ways", x.some(x.either(fail, x.call(f, a, 0))), "0 0 1 0 1", "", 0);
        goal("a way ahead of floating", x.some(x.either(zero, x.call(f, a, 0))), "1 0 0 0 1", "1", 1);
    }

    /** A call that becomes an open thing of the run that forces it. */
    private static int freeCall() {
        int free = x.function(0, false);
        x.rule(free, 0, 0, b);
        return x.call(free, 0, 0);
    }

    private static void unitingAcross() {
        begin();
        int free = freeCall();
        goal("two of its own", x.some(x.same(free, free)), "1 0 0 0 1", "1", 4);
        goal("from without and its own", x.some(x.same(a, free)), "1 0 0 0 1", "1", 3);
        Expect.row("stays open", Expect.bounds(x, 0, 0), "10");
        goal("its own and from without", x.some(x.same(free, a)), "1 0 0 0 1", "1", 3);
        goal("two from without", x.some(x.same(a, b)), "0 0 1 0 1", "", 0);
        goal("the same one from without", x.some(x.same(a, a)), "1 0 0 0 1", "1", 1);
        goal("from without and data", x.some(x.same(a, zero)), "0 0 1 0 1", "", 0);
        goal("data and from without", x.some(x.same(zero, a)), "0 0 1 0 1", "", 0);
        goal("the occurs check is ahead", x.some(x.same(a, x.data(2, a, 0))), "1 0 0 0 1", "0", 2);
        goal("the occurs check the other way", x.some(x.same(pair(zero, a), a)), "1 0 0 0 1", "0", 2);
        goal("its own and data", x.some(x.same(free, pair(a, zero))), "1 0 0 0 1", "1", 3);
        goal("its own becomes that", x.some(x.same(pair(free, a), pair(a, a))), "1 0 0 0 1", "1", 4);
        x.drop();
        zero = x.data(0, 0, 0);
        a = x.name(0);
        fail = x.call(0, 0, 0);
        int outer = x.function(1, false);
        x.rule(outer, a, 0, x.some(a));
        goal("SAME from without binds what is from without", pair(x.call(outer, x.same(a, zero), 0), a),
                "1 0 0 0 1", "4 1 0", 3);
        int around = x.function(1, false);
        x.rule(around, a, 0, x.some(x.call(outer, a, 0)));
        goal("two runs below", pair(x.call(around, x.same(a, zero), 0), a), "1 0 0 0 1", "4 1 0", 5);
        int bind = x.function(1, false);
        b = x.name(1);
        x.rule(bind, a, 0, x.same(pair(a, b), pair(b, zero)));
        goal("what became a thing from without is that", x.some(x.call(bind, a, 0)), "0 0 1 0 1", "", 0);
        goal("not within", pair(x.call(bind, a, 0), a), "1 0 0 0 1", "4 1 0", 4);
    }

    /** A call from without narrows, within, an open thing from without; its ways are those of the run around. */
    private static void narrowingFromWithout() {
        begin();
        int not = x.function(1, false);
        x.rule(not, zero, 0, one);
        x.rule(not, x.data(2, a, 0), 0, a);
        int outer = x.function(1, false);
        x.rule(outer, a, 0, x.some(a));
        Expect.outcomes("narrowed from without", x, pair(x.call(outer, x.call(not, b, 0), 0), b), "2 0 0 0 3");
        Expect.row("first", Expect.parts(x, 0), "4 1 0");
        Expect.row("second", Expect.parts(x, 1), "4 1 2 10");
        Expect.due("steps", x.steps(1), 3);
        x.rule(x.function(1, false), a, 0, x.some(x.call(not, a, 0)));
        goal("narrowed within", x.call(3, b, 0), "0 0 1 0 1", "", 0);
    }

    /** What was forced in a run within that failed is not forced again: its steps are done once. */
    private static void forcedStaysSo() {
        begin();
        int next = x.function(0, false);
        x.rule(next, 0, 0, x.data(2, zero, 0));
        int f = x.function(1, false);
        x.rule(f, a, 0, pair(x.some(pair(a, x.either(fail, x.either(fail, zero)))), a));
        goal("forced once in three runs", x.call(f, x.call(next, 0, 0), 0), "1 0 0 0 1", "4 1 2 0", 1 + 1 + 3);
        int g = x.function(1, false);
        x.rule(g, a, 0, pair(a, x.some(pair(a, x.either(fail, fail)))));
        goal("forced ahead", x.call(g, x.call(next, 0, 0), 0), "1 0 0 0 1", "4 2 0 0", 1 + 1 + 2);
        int choice = x.either(zero, one);
        int h = x.function(1, false);
        x.rule(h, a, 0, x.some(pair(a, x.either(fail, zero))));
        goal("a choice from without, once", x.call(h, choice, 0), "2 0 0 0 3", "1", 3);
        Expect.row("a choice from without, once", Expect.fates(x, 0), "0");
    }

    private static void mostRuns() {
        begin();
        int f = x.function(0, false);
        for (int at = 0; at < 19; at++) {
            x.rule(f, 0, 0, fail);
        }
        x.rule(f, 0, 0, zero);
        int call = x.call(f, 0, 0);
        goal("the 20th run has a value", x.some(call), "1 0 0 0 1", "1", 40);
        x.unrule(f);
        x.rule(f, 0, 0, fail);
        goal("20 runs fail", x.some(call), "1 0 0 0 1", "0", 40);
        x.rule(f, 0, 0, zero);
        goal("a 21st run would be made", x.some(call), "0 0 0 1 1", "", 0);
        x.unrule(f);
        goal("20 runs twice", pair(x.some(call), x.some(call)), "1 0 0 0 1", "4 0 0", 80);
        goal("20 runs thrice", pair(x.some(call), pair(x.some(call), x.some(call))), "0 0 0 1 1", "", 0);
    }

    /** Decisions of a run within are counted by themselves, and may be 40. */
    private static void mostDecisions() {
        begin();
        int f = x.function(1, false);
        int count = zero;
        for (int at = 0; at < 9; at++) {
            count = x.data(2, count, 0);
        }
        x.rule(f, x.data(2, a, 0), 0, x.call(f, a, 0));
        x.rule(f, zero, 0, zero);
        goal("ten first ways, then the second one", x.some(x.call(f, count, 0)), "1 0 0 0 1", "1", 11 + 11);
        int loop = x.function(0, false);
        x.rule(loop, 0, 0, x.call(loop, 0, 0));
        x.rule(loop, 0, 0, zero);
        goal("a 41st decision within", x.some(x.call(loop, 0, 0)), "0 0 0 1 1", "", 0);
        x.drop();
        zero = x.data(0, 0, 0);
        int choices = zero;
        for (int at = 0; at < 5; at++) {
            choices = x.either(choices, zero);
        }
        int five = x.function(0, false);
        x.rule(five, 0, 0, choices);
        int call = x.call(five, 0, 0);
        int forty = x.function(0, false);
        x.rule(forty, 0, 0, pair(pair(pair(call, call), pair(call, call)), pair(call, call)));
        int full = x.function(0, false);
        x.rule(full, 0, 0, pair(x.call(forty, 0, 0), pair(call, call)));
        int all = x.call(full, 0, 0);
        goal("40 decisions within", x.some(all), "1 0 0 0 1", "1", 1 + 1 + 1 + 8);
        goal("41 decisions within", x.some(pair(all, x.either(zero, zero))), "0 0 0 1 1", "", 0);
        goal("40 decisions within, twice", pair(x.some(all), x.some(all)), "1 0 0 0 1", "4 1 1", 22);
        goal("40 decisions within a run of 40 within", x.some(pair(all, x.some(all))), "1 0 0 0 1", "1", 22);
    }

    private static void decisionsApart() {
        begin();
        int own = x.some(x.either(fail, zero));
        int choice = x.either(zero, one);
        Expect.outcomes("decisions of runs within are not the run's", x, pair(own, pair(choice, x.some(one))),
                "2 0 0 0 3");
        Expect.row("one decision", Expect.fates(x, 1), "1");
        Expect.row("value", Expect.parts(x, 1), "4 1 4 1 1");
        Expect.due("within none", x.within(0), 0);
        Expect.due("within one", x.within(1), 2);
    }

    private static void nested() {
        begin();
        goal("a run within fails by SOME's 0", x.some(x.same(x.some(fail), one)), "1 0 0 0 1", "0", 3);
        int inner = x.some(x.either(fail, zero));
        goal("ways of a run within a run within", x.some(x.same(inner, x.either(zero, one))), "1 0 0 0 1", "1", 8);
        int f = x.function(1, false);
        x.rule(f, a, 0, x.some(x.same(a, zero)));
        int g = x.some(x.same(x.call(f, x.either(one, zero), 0), one));
        goal("a choice of the middle run, come to in the inner one", g, "1 0 0 0 1", "1", 10);
        int h = x.some(x.call(f, x.either(fail, zero), 0));
        goal("a failure of the middle run, come to in the inner one", h, "1 0 0 0 1", "1", 7);
        int k = x.some(x.call(f, fail, 0));
        goal("the middle run fails for good", k, "1 0 0 0 1", "0", 3);
    }

    /** Decisions of a run within stay while others are made within it: those ahead, and those behind. */
    private static void nestedBetweenDecisions() {
        begin();
        int toss = x.function(0, false);
        x.rule(toss, 0, 0, x.either(zero, one));
        int coin = x.call(toss, 0, 0);
        int inner = x.some(x.either(fail, zero));
        goal("a decision ahead", x.some(x.same(pair(coin, inner), pair(one, one))), "1 0 0 0 1", "1", 6 + 7);
        int f = x.function(1, false);
        x.rule(f, pair(one, pair(one, one)), 0, zero);
        goal("one ahead and one behind", x.some(x.call(f, pair(coin, pair(inner, coin)), 0)),
                "1 0 0 0 1", "1", 3 + 6 + 6);
        goal("no way has a value", x.some(x.call(f, pair(coin, pair(inner, zero)), 0)), "1 0 0 0 1", "0", 3 + 5);
        goal("two in one ahead", x.some(x.call(f, pair(coin, pair(x.some(inner), coin)), 0)),
                "1 0 0 0 1", "1", 3 + 7 + 7);
    }

    /** A SOME of the run around that is forced within is found by runs within that. */
    private static void nestedAround() {
        begin();
        int f = x.function(1, false);
        x.rule(f, a, 0, pair(x.some(pair(a, x.either(fail, zero))), a));
        goal("found within", x.call(f, x.some(x.either(fail, zero)), 0), "1 0 0 0 1", "4 1 1", 5);
        int choice = x.either(zero, one);
        int g = x.function(1, false);
        x.rule(g, a, 0, x.some(x.same(a, zero)));
        Expect.outcomes("a choice of the outmost run", x, x.some(x.call(f, x.call(g, choice, 0), 0)), "1 0 0 0 1");
        int h = x.function(2, false);
        x.rule(h, a, b, x.some(x.call(f, x.call(g, a, 0), 0)));
        Expect.outcomes("a choice from without, three runs below", x, x.call(h, choice, zero), "2 0 0 0 3");
        Expect.row("its decision is the run's", Expect.fates(x, 1), "1");
    }

    private static void floatsAndCuts() {
        begin();
        int rigid = x.function(1, true);
        x.rule(rigid, zero, 0, one);
        int free = freeCall();
        goal("its own open thing floats by what is rigid", x.some(x.call(rigid, free, 0)), "0 0 1 0 1", "", 0);
        goal("its own open thing floats by UNLIKE", x.some(x.unlike(free, zero)), "0 0 1 0 1", "", 0);
        goal("floating two runs below", x.some(x.some(x.unlike(a, b))), "0 0 1 0 1", "", 0);
        int loop = x.function(0, false);
        x.rule(loop, 0, 0, x.call(loop, 0, 0));
        goal("cut within", x.some(x.call(loop, 0, 0)), "0 0 0 1 1", "", 0);
        goal("a way behind what is cut", x.some(x.either(x.call(loop, 0, 0), zero)), "0 0 0 1 1", "", 0);
        int some = x.function(0, false);
        x.rule(some, 0, 0, x.some(x.call(some, 0, 0)));
        goal("runs within without an end", x.call(some, 0, 0), "0 0 0 1 1", "", 0);
    }

    private static void namesOfTheGoal() {
        begin();
        x.goal(pair(x.some(a), b));
        Expect.due("search", x.search(0, 0), 1);
        Expect.row("a name within a SOME", Expect.bounds(x, 0, 0), "10");
        Expect.row("a name outside", Expect.bounds(x, 0, 1), "10");
        Expect.row("a name that is not there", Expect.bounds(x, 0, 2), "");
        int f = x.function(0, false);
        x.rule(f, 0, 0, pair(a, x.some(x.same(a, zero))));
        goal("a name of a rule's right side, within a SOME as well", x.call(f, 0, 0), "0 0 1 0 1", "", 0);
        x.unrule(f);
        x.rule(f, 0, 0, x.some(x.same(a, zero)));
        goal("a name of a rule's right side within a SOME alone", x.call(f, 0, 0), "0 0 1 0 1", "", 0);
        goal("two runs below", x.some(x.call(f, 0, 0)), "0 0 1 0 1", "", 0);
    }
}
