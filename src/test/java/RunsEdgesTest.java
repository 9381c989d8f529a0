/**
 * The edges of runs ("Runs" and "Some" in Terms): the 100th step and the 101st, the 40th decision and the 41st,
 * the 20th run within and the 21st, no rules and one, and what is ahead of what where several could end a run.
 */
public final class RunsEdgesTest {
    private static Choicepoint x;
    private static int zero;
    private static int one;
    private static int a;
    private static int b;
    private static int fail;
    /** Of expressions that are right sides of the function FILL, which then takes 90 steps, and as many more. */
    private static final int[] FILLS = new int[11];
    private static final int ID = 0, FAIL = 1, FILL = 2;

    public static void main(String[] args) {
        lastStep();
        stepAheadOfFailing();
        stepAheadOfFloating();
        stepBehindDecision();
        lastStepOfUniting();
        lastStepOfAsking();
        lastStepWithin();
        stepAheadOfFloatingWithin();
        stepsInFlight();
        lastDecision();
        lastDecisionFromWithout();
        noRulesAndOne();
        firstPartsAhead();
        firstPartsAheadInUniting();
        rigidBelowData();
        waysInTheirOrder();
        lastRunWithin();
        lastRunWithinByMoreDecisions();
        lastRunWithinEnds();
        lastRunWithinApart();
        Expect.end("RunsEdgesTest");
    }

    private static int pair(int left, int right) {
        return x.data(4, left, right);
    }

    private static int next(int part) {
        return x.data(2, part, 0);
    }

    private static int id(int part) {
        return x.call(ID, part, 0);
    }

    private static void retell() {
        x.drop();
        zero = x.data(0, 0, 0);
        one = x.data(1, 0, 0);
        a = x.name(0);
        b = x.name(1);
        fail = x.call(FAIL, 0, 0);
    }

    private static void begin() {
        x = new Choicepoint();
        x.function(1, false);
        x.function(0, false);
        retell();
        x.rule(ID, a, 0, a);
    }

    /** Five functions are told; a call of the last one takes 1 + 8 (1 + 10) = 89 steps. */
    private static void tellSteps() {
        begin();
        x.function(0, false);
        int eleven = x.function(1, false);
        int most = x.function(1, false);
        int ids = a;
        for (int at = 0; at < 10; at++) {
            ids = id(ids);
        }
        x.rule(eleven, a, 0, ids);
        int elevens = a;
        for (int at = 0; at < 8; at++) {
            elevens = x.call(eleven, elevens, 0);
        }
        x.rule(most, a, 0, elevens);
        retell();
        FILLS[0] = x.call(most, zero, 0);
        for (int at = 1; at <= 10; at++) {
            FILLS[at] = id(FILLS[at - 1]);
        }
        x.rule(FILL, 0, 0, zero);
    }

    /** After so many steps, 90 to 100, the node is made whole: how runs end, and the steps of the first value. */
    private static void after(int many, String what, int node, String outcome, int steps) {
        x.unrule(FILL);
        x.rule(FILL, 0, 0, FILLS[many - 90]);
        goal("after " + many + " steps, " + what, pair(x.call(FILL, 0, 0), node), outcome, steps);
    }

    private static void goal(String what, int goal, String outcome, int steps) {
        Expect.outcomes(what, x, goal, outcome);
        if (x.count(0) > 0) {
            Expect.due(what + ": steps", x.steps(0), steps);
        }
    }

    /** All that comes to it is cut when the 101st step would be done, and not ahead. */
    private static final String VALUE = "1 0 0 0 1", FAILS = "0 1 0 0 1", FLOATS = "0 0 1 0 1", CUT = "0 0 0 1 1";

    // ---- steps

    private static void lastStep() {
        tellSteps();
        after(90, "data", zero, VALUE, 90);
        after(99, "data", zero, VALUE, 99);
        after(100, "data", zero, VALUE, 100);
        after(98, "a call", id(one), VALUE, 99);
        after(99, "a call", id(one), VALUE, 100);
        Expect.row("a call", Expect.parts(x, 0), "4 0 1");
        after(100, "a call", id(one), CUT, 0);
        after(98, "two calls", id(id(one)), VALUE, 100);
        after(99, "two calls", id(id(one)), CUT, 0);
        after(100, "a name", a, VALUE, 100);
        after(100, "an EITHER", x.either(zero, one), "2 0 0 0 3", 100);
        Expect.due("the second value's steps", x.steps(1), 100);
        after(100, "SAME of one thing", x.same(a, a), VALUE, 100);
        after(100, "UNLIKE of one thing", x.unlike(a, a), FAILS, 0);
    }

    private static void stepAheadOfFailing() {
        tellSteps();
        int f = x.function(1, false);
        x.rule(f, zero, 0, one);
        after(99, "a part that does not match", x.call(f, one, 0), FAILS, 0);
        after(100, "a part that does not match", x.call(f, one, 0), CUT, 0);
        after(100, "a call without rules", fail, FAILS, 0);
        after(99, "a right side that fails", x.call(ID, fail, 0), FAILS, 0);
        after(100, "a right side that fails", x.call(ID, fail, 0), CUT, 0);
        after(99, "unlike kinds", x.same(zero, one), FAILS, 0);
        after(100, "unlike kinds", x.same(zero, one), CUT, 0);
        int loop = next(a);
        after(99, "a name in data", x.same(a, loop), FAILS, 0);
        after(100, "a name in data", x.same(a, loop), CUT, 0);
        after(99, "data with the name", x.same(loop, a), FAILS, 0);
        after(100, "data with the name", x.same(loop, a), CUT, 0);
        after(99, "alike", x.unlike(zero, zero), FAILS, 0);
        after(100, "alike", x.unlike(zero, zero), CUT, 0);
    }

    private static void stepAheadOfFloating() {
        tellSteps();
        int rigid = x.function(1, true);
        x.rule(rigid, zero, 0, one);
        after(99, "a rigid call", x.call(rigid, a, 0), FLOATS, 0);
        after(100, "a rigid call", x.call(rigid, a, 0), CUT, 0);
        after(100, "UNLIKE of a name and data", x.unlike(a, zero), FLOATS, 0);
        after(100, "UNLIKE of data and a name", x.unlike(zero, a), FLOATS, 0);
        after(100, "UNLIKE of two names", x.unlike(a, b), FLOATS, 0);
        after(99, "UNLIKE of parts", x.unlike(next(a), next(b)), FLOATS, 0);
        after(100, "UNLIKE of parts", x.unlike(next(a), next(b)), CUT, 0);
    }

    /** A decision is ahead of the step of its call: the run branches, and its continuations are cut. */
    private static void stepBehindDecision() {
        tellSteps();
        int two = x.function(0, false);
        x.rule(two, 0, 0, zero);
        x.rule(two, 0, 0, one);
        int call = x.call(two, 0, 0);
        after(99, "a call of two rules", call, "2 0 0 0 3", 100);
        after(100, "a call of two rules", call, "0 0 0 2 3", 0);
        after(99, "an EITHER of calls", x.either(id(zero), call), "3 0 0 0 5", 100);
        after(100, "an EITHER of calls", x.either(id(zero), call), "0 0 0 3 5", 0);
    }

    private static void lastStepOfUniting() {
        tellSteps();
        after(99, "data", x.same(zero, zero), VALUE, 100);
        after(100, "data", x.same(zero, zero), CUT, 0);
        after(99, "a name", x.same(a, one), VALUE, 100);
        after(100, "a name", x.same(a, one), CUT, 0);
        after(100, "the other way round", x.same(one, a), CUT, 0);
        after(100, "two names", x.same(a, b), CUT, 0);
        int left = pair(a, next(zero));
        int right = pair(a, next(b));
        after(97, "parts", x.same(left, right), VALUE, 100);
        after(98, "parts", x.same(left, right), CUT, 0);
        after(99, "parts of unlike data", x.same(next(zero), x.data(3, zero, 0)), FAILS, 0);
        after(98, "unlike parts", x.same(next(zero), next(one)), FAILS, 0);
        after(99, "unlike parts", x.same(next(zero), next(one)), CUT, 0);
    }

    private static void lastStepOfAsking() {
        tellSteps();
        after(99, "unlike kinds", x.unlike(zero, one), VALUE, 100);
        after(100, "unlike kinds", x.unlike(zero, one), CUT, 0);
        int left = pair(next(zero), a);
        int right = pair(next(one), b);
        after(97, "parts", x.unlike(left, right), VALUE, 100);
        after(98, "parts", x.unlike(left, right), CUT, 0);
        after(98, "alike parts", x.unlike(next(zero), next(zero)), FAILS, 0);
        after(99, "alike parts", x.unlike(next(zero), next(zero)), CUT, 0);
    }

    /** Steps of the run and of all runs within it are counted together; each run within does one. */
    private static void lastStepWithin() {
        tellSteps();
        after(99, "a run within", x.some(zero), VALUE, 100);
        after(100, "a run within", x.some(zero), CUT, 0);
        after(99, "one that fails", x.some(fail), VALUE, 100);
        after(100, "one that fails", x.some(fail), CUT, 0);
        after(98, "a step of it", x.some(id(zero)), VALUE, 100);
        after(99, "a step of it", x.some(id(zero)), CUT, 0);
        after(98, "one in one", x.some(x.some(zero)), VALUE, 100);
        after(99, "one in one", x.some(x.some(zero)), CUT, 0);
        after(98, "one behind one", pair(x.some(zero), x.some(one)), VALUE, 100);
        after(99, "one behind one", pair(x.some(zero), x.some(one)), CUT, 0);
        int third = x.some(x.either(fail, x.either(fail, zero)));
        after(97, "three runs", third, VALUE, 100);
        after(98, "three runs", third, CUT, 0);
        int none = x.some(x.either(fail, x.either(fail, fail)));
        after(97, "three runs that fail", none, VALUE, 100);
        after(98, "three runs that fail", none, CUT, 0);
    }

    /** The step is ahead of floating, and so is asking whether the one is in the other one. */
    private static void stepAheadOfFloatingWithin() {
        tellSteps();
        int f = x.function(1, false);
        x.rule(f, zero, 0, one);
        after(98, "a name of without, united with data", x.some(x.same(a, zero)), FLOATS, 0);
        after(99, "a name of without, united with data", x.some(x.same(a, zero)), CUT, 0);
        after(98, "the other way round", x.some(x.same(zero, a)), FLOATS, 0);
        after(99, "the other way round", x.some(x.same(zero, a)), CUT, 0);
        after(98, "two names of without", x.some(x.same(a, b)), FLOATS, 0);
        after(99, "two names of without", x.some(x.same(a, b)), CUT, 0);
        after(98, "a name of without in data", x.some(x.same(a, next(a))), VALUE, 100);
        Expect.row("a name of without in data: it fails", Expect.parts(x, 0), "4 0 0");
        after(99, "a name of without in data", x.some(x.same(a, next(a))), CUT, 0);
        after(98, "a name of without, matched", x.some(x.call(f, a, 0)), FLOATS, 0);
        after(99, "a name of without, matched", x.some(x.call(f, a, 0)), CUT, 0);
        after(99, "a name of without, asked", x.some(x.unlike(a, zero)), FLOATS, 0);
        after(100, "a name of without, asked", x.some(x.unlike(a, zero)), CUT, 0);
    }

    /** 100 steps, nearly all of calls whose parts are still being matched: each keeps its own names. */
    private static void stepsInFlight() {
        begin();
        int same = x.function(1, false);
        int eleven = x.function(1, false);
        int most = x.function(1, false);
        int keep = x.function(2, false);
        int inner = x.function(0, false);
        x.rule(same, next(b), 0, next(b));
        x.rule(keep, a, next(b), next(pair(a, b)));
        int row = a;
        for (int at = 0; at < 10; at++) {
            row = x.call(same, row, 0);
        }
        x.rule(eleven, a, 0, row);
        row = a;
        for (int at = 0; at < 8; at++) {
            row = x.call(eleven, row, 0);
        }
        x.rule(most, a, 0, row);
        retell();
        x.rule(inner, 0, 0, x.call(keep, zero, x.call(keep, one, x.call(keep, zero, next(b)))));
        int goal = x.call(most, x.call(inner, 0, 0), 0);
        for (int at = 0; at < 7; at++) {
            goal = x.call(same, goal, 0);
        }
        goal("100 steps in flight", goal, VALUE, 100);
        Expect.row("each keeps its own", Expect.parts(x, 0), "2 4 0 4 1 4 0 10");
        goal("101 steps in flight", x.call(same, goal, 0), CUT, 0);
    }

    // ---- decisions

    /** Returns a call that comes to 39 decisions or 40: the first way of each has a value, the second one fails. */
    private static int tellDecisions(int many) {
        begin();
        int five = x.function(0, false);
        int last = x.function(0, false);
        int thirty = x.function(0, false);
        int all = x.function(0, false);
        int choices = zero;
        for (int at = 0; at < 5; at++) {
            if (at == many - 35) {
                x.rule(last, 0, 0, choices);
            }
            choices = x.either(choices, fail);
        }
        x.rule(five, 0, 0, choices);
        if (many == 40) {
            x.rule(last, 0, 0, choices);
        }
        int call = x.call(five, 0, 0);
        x.rule(thirty, 0, 0, pair(pair(pair(call, call), pair(call, call)), pair(call, call)));
        x.rule(all, 0, 0, pair(x.call(thirty, 0, 0), pair(call, x.call(last, 0, 0))));
        return x.call(all, 0, 0);
    }

    /** The 41st decision cuts, be it of one way that fails or two; a call of one rule is none. */
    private static void lastDecision() {
        int all = tellDecisions(40);
        goal("40 decisions", all, "1 40 0 0 81", 10);
        Expect.due("the 40th decision", x.fate(0, 39), 0);
        Expect.due("none behind it", x.fate(0, 40), Choicepoint.NONE);
        for (int order = 0; order < 3; order++) {
            Expect.due("40 decisions in each order", x.search(order, 5), 1);
            Expect.due("runs in each order", x.count(4), 81);
            Expect.due("no row is left", x.count(5), 1);
        }
        goal("a call of one rule behind 40", pair(all, id(zero)), "1 40 0 0 81", 11);
        goal("an EITHER behind 40", pair(all, x.either(zero, zero)), "0 40 0 1 81", 0);
        goal("an EITHER that fails behind 40", pair(all, x.either(fail, fail)), "0 40 0 1 81", 0);
        goal("a failure behind 40", pair(all, fail), "0 41 0 0 81", 0);
        goal("floating behind 40", pair(all, x.unlike(a, b)), "0 40 1 0 81", 0);
        goal("decisions of a run within behind 40", pair(all, x.some(x.either(fail, zero))), "1 40 0 0 81", 12);
        int two = x.function(1, false);
        x.rule(two, zero, 0, zero);
        goal("a call of one rule, that does not match, behind 40", pair(all, x.call(two, one, 0)), "0 41 0 0 81", 0);
        x.rule(two, next(a), 0, zero);
        goal("a call of two rules, that do not match, behind 40", pair(all, x.call(two, one, 0)), "0 40 0 1 81", 0);
        goal("a call of two rules behind 39", pair(tellDecisions(39), x.either(zero, one)), "2 39 0 0 81", 10);
        Expect.due("the 40th decision of the second value", x.fate(1, 39), 1);
        Expect.due("none behind that", x.fate(1, 40), Choicepoint.NONE);
    }

    /** A decision that is come to in a run within, but belongs to the run around, is counted there. */
    private static void lastDecisionFromWithout() {
        int all = tellDecisions(40);
        int f = x.function(1, false);
        x.rule(f, a, 0, x.some(a));
        goal("a choice from without behind 40", pair(all, x.call(f, x.either(zero, one), 0)), "0 40 0 1 81", 0);
        goal("a choice of its own behind 40", pair(all, x.some(x.call(f, x.either(fail, one), 0))),
                "1 40 0 0 81", 10 + 2 + 1 + 2 + 1);
        all = tellDecisions(39);
        f = x.function(1, false);
        x.rule(f, a, 0, x.some(a));
        goal("a choice from without behind 39", pair(all, x.call(f, x.either(zero, one), 0)), "2 39 0 0 81", 12);
        int loop = x.function(0, false);
        x.rule(loop, 0, 0, x.call(loop, 0, 0));
        x.rule(loop, 0, 0, zero);
        goal("the 41st of a run within cuts those around", pair(x.some(x.call(loop, 0, 0)), x.either(zero, one)),
                CUT, 0);
        goal("behind a value", pair(x.some(x.either(zero, x.call(loop, 0, 0))), x.either(zero, one)),
                "2 0 0 0 3", 1);
    }

    /** A call without rules fails; of one rule there is no decision, of two there is, be there but one that matches. */
    private static void noRulesAndOne() {
        begin();
        int f = x.function(1, false);
        int call = x.call(f, zero, 0);
        goal("no rules", call, FAILS, 0);
        goal("no rules, within", x.some(call), VALUE, 1);
        Expect.row("no rules, within", Expect.parts(x, 0), "0");
        x.rule(f, zero, 0, one);
        goal("one rule", call, VALUE, 1);
        Expect.row("one rule is no decision", Expect.fates(x, 0), "");
        goal("one rule that does not match", x.call(f, one, 0), FAILS, 0);
        x.rule(f, one, 0, zero);
        goal("two rules", call, "1 1 0 0 3", 1);
        Expect.row("two rules are a decision", Expect.fates(x, 0), "0");
        goal("two rules, the second one matches", x.call(f, one, 0), "1 1 0 0 3", 1);
        Expect.row("the second way", Expect.fates(x, 0), "1");
        goal("two rules, neither matches", x.call(f, next(a), 0), "0 2 0 0 3", 0);
        x.unrule(f);
        x.unrule(f);
        goal("no rules again", call, FAILS, 0);
    }

    /** What is made whole first fails, floats or comes to a decision ahead of what is second. */
    private static void firstPartsAhead() {
        begin();
        int floats = x.unlike(a, b);
        int choice = x.either(zero, one);
        int[] firsts = {fail, floats, choice};
        String[] dues = {FAILS, FLOATS, "0 2 0 0 3", FAILS, FLOATS, "0 0 2 0 3"};
        for (int at = 0; at < 6; at++) {
            int first = firsts[at % 3];
            int second = at < 3 ? fail : floats;
            String what = at + ", first ahead of second";
            goal("data, " + what, pair(first, second), dues[at], 0);
            goal("SAME, " + what, x.same(first, second), dues[at], 0);
            goal("UNLIKE, " + what, x.unlike(first, second), dues[at], 0);
        }
        int f = x.function(2, false);
        x.rule(f, zero, zero, one);
        goal("a call, the first one fails", x.call(f, fail, floats), FAILS, 0);
        goal("a call, the first one floats", x.call(f, floats, fail), FLOATS, 0);
    }

    /** Of two pairs the first parts float and the second ones fail, or the other way round. */
    private static void firstPartsAheadInUniting() {
        begin();
        goal("the first ones float", x.some(x.same(pair(a, zero), pair(one, one))), FLOATS, 0);
        goal("the second ones float", x.some(x.same(pair(zero, a), pair(one, one))), VALUE, 3);
        Expect.row("the first ones fail", Expect.parts(x, 0), "0");
        goal("the first ones float, asked", x.unlike(pair(a, zero), pair(one, one)), FLOATS, 0);
        goal("the second ones float, asked", x.unlike(pair(zero, a), pair(one, one)), VALUE, 2);
        goal("alike ahead of floating", x.unlike(pair(zero, a), pair(zero, one)), FLOATS, 0);
        goal("floating is not failing", x.some(x.unlike(a, zero)), FLOATS, 0);
    }

    /** A rigid function waits for open things below data too, but not where its pattern has a name. */
    private static void rigidBelowData() {
        begin();
        int rigid = x.function(1, true);
        x.rule(rigid, pair(next(zero), b), 0, b);
        goal("an open thing", x.call(rigid, a, 0), FLOATS, 0);
        goal("an open part", x.call(rigid, pair(a, zero), 0), FLOATS, 0);
        goal("an open part of a part", x.call(rigid, pair(next(a), zero), 0), FLOATS, 0);
        goal("an open part where a name is", x.call(rigid, pair(next(zero), a), 0), VALUE, 1);
        goal("unlike ahead of an open part", x.call(rigid, x.data(5, a, a), 0), FAILS, 0);
        goal("an open part bound ahead", pair(x.same(a, zero), x.call(rigid, pair(next(a), a), 0)), VALUE, 2);
        goal("an open part bound behind", pair(x.call(rigid, pair(next(a), a), 0), x.same(a, zero)), FLOATS, 0);
    }

    // ---- runs within

    /** The next run within takes the next way of the last decision that has one, and first ways behind it. */
    private static void waysInTheirOrder() {
        begin();
        int choice = x.either(zero, one);
        int both = pair(choice, choice);
        for (int run = 1; run <= 4; run++) {
            int wanted = pair(run > 2 ? one : zero, run % 2 == 0 ? one : zero);
            // Each run does its own step, one for the pairs, and one for each part that it comes to.
            goal("run " + run, x.some(x.same(both, wanted)), VALUE, run == 1 ? 4 : run == 2 ? 8 : run == 3 ? 10 : 14);
            Expect.row("run " + run + " has a value", Expect.parts(x, 0), "1");
        }
        begin();
        int floats = x.unlike(a, b);
        goal("the last decision first", x.some(pair(x.either(zero, floats), x.either(fail, zero))), VALUE, 2);
        goal("then the one ahead", x.some(pair(x.either(zero, floats), x.either(fail, fail))), FLOATS, 0);
        goal("ways that are given stay", x.some(pair(x.either(fail, zero), x.either(fail, zero))), VALUE, 3);
    }

    /** Function 2 has so many rules that fail, and then one for the last node. */
    private static int tellRuns(int failing, int last) {
        int f = x.function(0, false);
        for (int at = 0; at < failing; at++) {
            x.rule(f, 0, 0, fail);
        }
        x.rule(f, 0, 0, last);
        return x.call(f, 0, 0);
    }

    private static void lastRunWithin() {
        String[] outcomes = {VALUE, VALUE, CUT};
        for (int more = 0; more < 3; more++) {
            begin();
            goal("run " + (19 + more) + " has a value", x.some(tellRuns(18 + more, one)), outcomes[more],
                    2 * (19 + more));
            begin();
            goal("run " + (19 + more) + " fails, and is the last", x.some(tellRuns(18 + more, fail)),
                    outcomes[more], 2 * (19 + more));
            if (more < 2) {
                Expect.row("none has a value", Expect.parts(x, 0), "0");
            }
        }
        begin();
        int first = tellRuns(0, one);
        for (int at = 0; at < 21; at++) {
            x.rule(2, 0, 0, fail);
        }
        goal("22 ways, the first of which has a value", x.some(first), VALUE, 2);
        Expect.row("a value", Expect.parts(x, 0), "1");
    }

    /** Four ways by five are 20 runs within; seven by three are one more. */
    private static void lastRunWithinByMoreDecisions() {
        begin();
        int four = x.either(x.either(zero, zero), x.either(zero, zero));
        int five = x.either(x.either(zero, zero), x.either(zero, x.either(zero, zero)));
        int f = x.function(0, false);
        x.rule(f, 0, 0, four);
        int g = x.function(0, false);
        x.rule(g, 0, 0, five);
        int both = pair(x.call(f, 0, 0), pair(x.call(g, 0, 0), fail));
        goal("20 runs that fail", x.some(both), VALUE, 20 + 20 + 20);
        Expect.row("20 runs that fail", Expect.parts(x, 0), "0");
        goal("a 21st behind them", x.some(x.either(both, zero)), CUT, 0);
        goal("20 behind one", x.some(x.either(zero, both)), VALUE, 1);
        int h = x.function(0, false);
        x.rule(h, 0, 0, x.either(zero, x.either(zero, zero)));
        int k = x.function(0, false);
        x.rule(k, 0, 0, x.either(four, x.call(h, 0, 0)));
        goal("21 runs that fail", x.some(pair(x.call(k, 0, 0), pair(x.call(h, 0, 0), fail))), CUT, 0);
    }

    /** The 20th run floats, fails by what is of without, or comes to a decision there: so does the run around. */
    private static void lastRunWithinEnds() {
        begin();
        goal("the 20th run floats", x.some(tellRuns(19, x.unlike(a, b))), FLOATS, 0);
        begin();
        goal("a 21st run would float", x.some(tellRuns(20, x.unlike(a, b))), CUT, 0);
        begin();
        int f = x.function(1, false);
        for (int at = 0; at < 19; at++) {
            x.rule(f, b, 0, fail);
        }
        x.rule(f, b, 0, b);
        int within = x.function(1, false);
        x.rule(within, a, 0, x.some(x.call(f, a, 0)));
        goal("the 20th run fails by what is of without", x.call(within, fail, 0), FAILS, 0);
        goal("the 20th run comes to a decision of without", x.call(within, x.either(zero, fail), 0), "1 1 0 0 3", 41);
        x.unrule(f);
        x.rule(f, b, 0, fail);
        x.rule(f, b, 0, b);
        goal("a 21st run would fail by that", x.call(within, fail, 0), CUT, 0);
        goal("a 21st run would come to a decision", x.call(within, x.either(zero, fail), 0), CUT, 0);
    }

    /** Runs within are counted for each SOME by itself, each time that it is found. */
    private static void lastRunWithinApart() {
        begin();
        int twenty = x.some(tellRuns(19, fail));
        goal("20 in one", x.some(twenty), VALUE, 41);
        Expect.row("20 in one", Expect.parts(x, 0), "1");
        goal("twice 20 in one", x.some(pair(twenty, twenty)), VALUE, 81);
        goal("20 in each of two", x.some(pair(twenty, x.either(fail, zero))), VALUE, 82);
        goal("20 and 20 more", pair(twenty, twenty), VALUE, 80);
        Expect.row("20 and 20 more", Expect.parts(x, 0), "4 0 0");
    }
}
