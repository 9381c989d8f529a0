import java.util.ArrayList;
import java.util.List;

/**
 * The head of Terms: a call that throws changes nothing, and throws what its throws clause names first.
 * Each refused call is made of an object of its own; whatever can be asked of that afterwards is answered
 * as by one of which it was not made.
 */
public final class RefusedTest {
    private interface Act {
        int make(Choicepoint x);
    }

    private record Refused(String what, Act act, Class<?> due) {
    }

    private static final int FAR = Integer.MAX_VALUE;
    private static final int BELOW = Integer.MIN_VALUE;
    private static final Class<?> INDEX = IndexOutOfBoundsException.class;
    private static final Class<?> ARGUMENT = IllegalArgumentException.class;
    private static final Class<?> STATE = IllegalStateException.class;

    private static List<Refused> refused;

    public static void main(String[] args) {
        check("a new object", x -> 0, ofNew());
        check("a small program", RefusedTest::tellSmall, ofSmall());
        check("80 nodes", RefusedTest::tellFullOfNodes, ofFullOfNodes());
        check("8 functions", RefusedTest::tellFullOfFunctions, ofFullOfFunctions());
        check("24 rules", RefusedTest::tellFullOfRules, ofFullOfRules());
        check("ten values", RefusedTest::tellValues, ofValues());
        Expect.end("RefusedTest");
    }

    // ---- how refused calls are looked at

    private static void check(String state, Act tell, List<Refused> calls) {
        Choicepoint plain = new Choicepoint();
        tell.make(plain);
        String due = everything(plain);
        for (Refused call : calls) {
            Choicepoint x = new Choicepoint();
            tell.make(x);
            String what = state + ", " + call.what;
            Expect.row(what, answer(x, call.act), call.due.getSimpleName());
            Expect.row(what + ": twice", answer(x, call.act), call.due.getSimpleName());
            Expect.row(what + ": what is answered afterwards", everything(x), due);
        }
    }

    private static String answer(Choicepoint x, Act act) {
        try {
            return Integer.toString(act.make(x));
        } catch (RuntimeException thrown) {
            return thrown.getClass().getSimpleName();
        }
    }

    /** All that can be asked of an object in some 370 calls, what changes it last. */
    private static String everything(Choicepoint x) {
        List<String> all = new ArrayList<>();
        readFound(x, all);
        all.add("many " + x.many() + ", within " + answer(x, y -> y.within(3)));
        all.add("drawn " + answer(x, y -> y.search(Choicepoint.DRAWN, 12345)));
        readFound(x, all);
        for (int node = 0; node <= 80; node++) {
            int goal = node;
            all.add("goal " + answer(x, y -> y.goal(goal)));
        }
        for (int function = 0; function <= 8; function++) {
            int called = function;
            all.add("call " + answer(x, y -> y.call(called, 0, 0)));
        }
        all.add("name " + answer(x, y -> y.name(5)));
        all.add("drop " + x.drop() + ", name " + x.name(5));
        for (int function = 0; function < 8; function++) {
            int called = function;
            String left = "";
            while (!left.equals("0") && !left.endsWith("Exception")) {
                left = answer(x, y -> y.unrule(called));
                all.add("unrule " + left);
            }
        }
        all.add("function " + answer(x, y -> y.function(0, false)));
        return String.join("; ", all);
    }

    private static void readFound(Choicepoint x, List<String> all) {
        for (int what = 0; what < 6; what++) {
            all.add("count " + x.count(what));
        }
        for (int value = 0; value <= 10; value++) {
            int its = value;
            all.add("steps " + answer(x, y -> y.steps(its)));
            for (int place = 0; place < 3; place++) {
                int at = place;
                all.add("part " + answer(x, y -> y.part(its, at)) + ", fate " + answer(x, y -> y.fate(its, at)));
            }
            all.add("bound " + answer(x, y -> y.bound(its, 0, 0)));
        }
    }

    // ---- a new object

    private static List<Refused> ofNew() {
        refused = new ArrayList<>();
        refuse("function(-1)", x -> x.function(-1, true), ARGUMENT);
        refuse("function(3)", x -> x.function(3, false), ARGUMENT);
        refuse("name(-1)", x -> x.name(-1), ARGUMENT);
        refuse("name(6)", x -> x.name(6), ARGUMENT);
        refuse("data(-1)", x -> x.data(-1, 0, 0), ARGUMENT);
        refuse("data(6)", x -> x.data(6, 0, 0), ARGUMENT);
        refuse("data(2) of no node", x -> x.data(2, 0, 0), INDEX);
        refuse("data(5) of no node", x -> x.data(5, 0, 0), INDEX);
        refuse("call", x -> x.call(0, 0, 0), INDEX);
        refuse("either", x -> x.either(0, 0), INDEX);
        refuse("same", x -> x.same(0, 0), INDEX);
        refuse("unlike", x -> x.unlike(0, 0), INDEX);
        refuse("some", x -> x.some(0), INDEX);
        refuse("rule", x -> x.rule(0, 0, 0, 0), INDEX);
        refuse("unrule", x -> x.unrule(0), INDEX);
        refuse("goal", x -> x.goal(0), INDEX);
        refuse("search", x -> x.search(0, 0), STATE);
        refuse("search(-1), IllegalState too", x -> x.search(-1, 0), ARGUMENT);
        refuse("search(3), IllegalState too", x -> x.search(3, 0), ARGUMENT);
        refuse("within", x -> x.within(0), STATE);
        refuse("within(10)", x -> x.within(10), STATE);
        refuse("within(-1), IllegalState too", x -> x.within(-1), ARGUMENT);
        refuse("within(11), IllegalState too", x -> x.within(11), ARGUMENT);
        refuseCounts();
        refuse("part", x -> x.part(0, 0), INDEX);
        refuse("bound", x -> x.bound(0, 0, 0), INDEX);
        refuse("steps", x -> x.steps(0), INDEX);
        refuse("fate", x -> x.fate(0, 0), INDEX);
        return refused;
    }

    private static void refuse(String what, Act act, Class<?> due) {
        refused.add(new Refused(what, act, due));
    }

    private static void refuseCounts() {
        refuse("count(-1)", x -> x.count(-1), ARGUMENT);
        refuse("count(6)", x -> x.count(6), ARGUMENT);
        refuse("count far", x -> x.count(FAR), ARGUMENT);
        refuse("count below", x -> x.count(BELOW), ARGUMENT);
    }

    // ---- a small program

    /** Functions with 0, 1 and 2 parts; 0 to 9 are nodes: 8 has twelve of them, 9 seven. */
    private static int tellSmall(Choicepoint x) {
        x.function(0, false);
        x.function(1, true);
        x.function(2, false);
        int zero = x.data(0, 0, 0);
        int a = x.name(0);
        int b = x.name(1);
        int choice = x.either(zero, a);
        int pair = x.data(4, a, b);
        int call = x.call(0, 0, 0);
        int five = x.data(4, choice, call);
        int eleven = x.data(4, five, five);
        x.data(2, eleven, 0);
        x.data(5, pair, pair);
        x.rule(0, 0, 0, choice);
        x.rule(0, 0, 0, zero);
        x.rule(1, zero, 0, a);
        x.goal(five);
        return x.search(Choicepoint.DEPTH, 0);
    }

    private static List<Refused> ofSmall() {
        refused = new ArrayList<>();
        refuseNoNodes();
        refuseTooManyNodes();
        refuseRules();
        refuse("function far", x -> x.function(FAR, false), ARGUMENT);
        refuse("function below", x -> x.function(BELOW, false), ARGUMENT);
        refuse("name far", x -> x.name(FAR), ARGUMENT);
        refuse("name below", x -> x.name(BELOW), ARGUMENT);
        refuse("unrule of a function without rules", x -> x.unrule(2), STATE);
        refuse("unrule of no function", x -> x.unrule(3), INDEX);
        refuse("unrule below", x -> x.unrule(-1), INDEX);
        refuse("search(-1)", x -> x.search(-1, 0), ARGUMENT);
        refuse("search(3)", x -> x.search(3, 0), ARGUMENT);
        refuse("search far", x -> x.search(FAR, 0), ARGUMENT);
        refuse("search below", x -> x.search(BELOW, 0), ARGUMENT);
        refuse("within(-1)", x -> x.within(-1), ARGUMENT);
        refuse("within(11)", x -> x.within(11), ARGUMENT);
        refuse("within far", x -> x.within(FAR), ARGUMENT);
        refuse("within below", x -> x.within(BELOW), ARGUMENT);
        refuseCounts();
        return refused;
    }

    private static void refuseNoNodes() {
        for (int none : new int[] {10, -1, FAR, BELOW}) {
            refuse("data(2) of " + none, x -> x.data(2, none, 0), INDEX);
            refuse("data(3) of " + none, x -> x.data(3, none, 0), INDEX);
            refuse("data(4) of a first " + none, x -> x.data(4, none, 0), INDEX);
            refuse("data(5) of a second " + none, x -> x.data(5, 0, none), INDEX);
            refuse("data(6) of " + none, x -> x.data(6, none, none), ARGUMENT);
            refuse("data(-1) of " + none, x -> x.data(-1, none, none), ARGUMENT);
            refuse("data far", x -> x.data(FAR, none, none), ARGUMENT);
            refuse("data below", x -> x.data(BELOW, none, none), ARGUMENT);
            refuse("call of no function " + none, x -> x.call(none, 0, 0), INDEX);
            refuse("call of one part " + none, x -> x.call(1, none, 0), INDEX);
            refuse("call of a first part " + none, x -> x.call(2, none, 0), INDEX);
            refuse("call of a second part " + none, x -> x.call(2, 0, none), INDEX);
            refuse("either of a first " + none, x -> x.either(none, 0), INDEX);
            refuse("either of a second " + none, x -> x.either(0, none), INDEX);
            refuse("same of a first " + none, x -> x.same(none, 0), INDEX);
            refuse("same of a second " + none, x -> x.same(0, none), INDEX);
            refuse("unlike of a first " + none, x -> x.unlike(none, 0), INDEX);
            refuse("unlike of a second " + none, x -> x.unlike(0, none), INDEX);
            refuse("some of " + none, x -> x.some(none), INDEX);
            refuse("goal of " + none, x -> x.goal(none), INDEX);
        }
        refuse("call of function 3", x -> x.call(3, 0, 0), INDEX);
    }

    private static void refuseTooManyNodes() {
        refuse("data(2) of 13", x -> x.data(2, 8, 0), STATE);
        refuse("data(3) of 13", x -> x.data(3, 8, -1), STATE);
        refuse("data(4) of 14", x -> x.data(4, 8, 0), STATE);
        refuse("data(5) of 14", x -> x.data(5, 0, 8), STATE);
        refuse("data(5) of 15", x -> x.data(5, 9, 9), STATE);
        refuse("data(5) of 13, and of no node", x -> x.data(5, 8, 10), INDEX);
        refuse("call of 13", x -> x.call(1, 8, 0), STATE);
        refuse("call of two parts, 14", x -> x.call(2, 8, 0), STATE);
        refuse("call of two parts, the other way round", x -> x.call(2, 0, 8), STATE);
        refuse("call of 13, and of no node", x -> x.call(2, 8, -1), INDEX);
        refuse("either of 14", x -> x.either(8, 0), STATE);
        refuse("either of 15", x -> x.either(9, 9), STATE);
        refuse("either of 13, and of no node", x -> x.either(10, 8), INDEX);
        refuse("same of 13", x -> x.same(7, 0), STATE);
        refuse("same of 13, and of no node", x -> x.same(7, FAR), INDEX);
        refuse("unlike of 13", x -> x.unlike(0, 7), STATE);
        refuse("unlike of 13, and of no node", x -> x.unlike(BELOW, 7), INDEX);
        refuse("some of 13", x -> x.some(8), STATE);
    }

    private static void refuseRules() {
        for (int none : new int[] {10, -1, FAR, BELOW}) {
            refuse("rule of no function " + none, x -> x.rule(none, 0, 0, 0), INDEX);
            refuse("rule of a first pattern " + none, x -> x.rule(1, none, 0, 0), INDEX);
            refuse("rule of two, a first pattern " + none, x -> x.rule(2, none, 0, 0), INDEX);
            refuse("rule of a second pattern " + none, x -> x.rule(2, 0, none, 0), INDEX);
            refuse("rule of a right side " + none, x -> x.rule(0, 0, 0, none), INDEX);
            refuse("rule of a pattern that is none, right side " + none, x -> x.rule(1, 3, 0, none), INDEX);
            refuse("rule of a pattern that is none, second " + none, x -> x.rule(2, 3, none, 0), INDEX);
            refuse("rule of a second that is none, first " + none, x -> x.rule(2, none, 3, 0), INDEX);
            refuse("rule of a name twice, right side " + none, x -> x.rule(2, 1, 1, none), INDEX);
        }
        refuse("rule of an EITHER as a pattern", x -> x.rule(1, 3, 0, 0), ARGUMENT);
        refuse("rule of a call as a pattern", x -> x.rule(1, 5, 0, 0), ARGUMENT);
        refuse("rule of data with a call as a pattern", x -> x.rule(2, 0, 6, 0), ARGUMENT);
        refuse("rule of a name twice in one pattern", x -> x.rule(1, 9, 0, 0), ARGUMENT);
        refuse("rule of a name twice in both patterns", x -> x.rule(2, 1, 4, 0), ARGUMENT);
    }

    // ---- full

    /** Node 79 has twelve nodes. */
    private static int tellFullOfNodes(Choicepoint x) {
        x.function(0, false);
        x.function(1, false);
        x.function(2, false);
        for (int at = 0; at < 69; at++) {
            x.data(at % 2, 0, 0);
        }
        for (int at = 69; at < 80; at++) {
            x.data(2, at - 1, 0);
        }
        x.rule(0, 0, 0, 1);
        x.goal(70);
        return x.search(Choicepoint.BREADTH, 0);
    }

    private static List<Refused> ofFullOfNodes() {
        refused = new ArrayList<>();
        refuse("name(0)", x -> x.name(0), STATE);
        refuse("name(5)", x -> x.name(5), STATE);
        refuse("name(6)", x -> x.name(6), ARGUMENT);
        refuse("name(-1)", x -> x.name(-1), ARGUMENT);
        refuse("data(0)", x -> x.data(0, 0, 0), STATE);
        refuse("data(1)", x -> x.data(1, -1, -1), STATE);
        refuse("data(2)", x -> x.data(2, 0, -1), STATE);
        refuse("data(5)", x -> x.data(5, 0, 0), STATE);
        refuse("data(6)", x -> x.data(6, 80, 80), ARGUMENT);
        refuse("data(-1)", x -> x.data(-1, 0, 0), ARGUMENT);
        refuse("data(2) of no node", x -> x.data(2, 80, 0), INDEX);
        refuse("data(4) of no second node", x -> x.data(4, 0, 80), INDEX);
        refuse("data(2) of 13", x -> x.data(2, 79, 0), STATE);
        refuse("call", x -> x.call(0, -1, -1), STATE);
        refuse("call of one part", x -> x.call(1, 0, -1), STATE);
        refuse("call of two parts", x -> x.call(2, 79, 79), STATE);
        refuse("call of no function", x -> x.call(3, 0, 0), INDEX);
        refuse("call of no node", x -> x.call(1, 80, 0), INDEX);
        refuse("call of no second node", x -> x.call(2, 0, 80), INDEX);
        refuse("either", x -> x.either(0, 0), STATE);
        refuse("either of no node", x -> x.either(0, 80), INDEX);
        refuse("same", x -> x.same(0, 0), STATE);
        refuse("same of no node", x -> x.same(80, 0), INDEX);
        refuse("unlike", x -> x.unlike(0, 0), STATE);
        refuse("unlike of no node", x -> x.unlike(0, 80), INDEX);
        refuse("some", x -> x.some(0), STATE);
        refuse("some of no node", x -> x.some(80), INDEX);
        refuse("goal of no node", x -> x.goal(80), INDEX);
        refuse("rule of no right side", x -> x.rule(0, 0, 0, 80), INDEX);
        return refused;
    }

    private static int tellFullOfFunctions(Choicepoint x) {
        for (int at = 0; at < 8; at++) {
            x.function(at % 3, false);
        }
        return x.data(0, 0, 0);
    }

    private static List<Refused> ofFullOfFunctions() {
        refused = new ArrayList<>();
        refuse("function(0)", x -> x.function(0, false), STATE);
        refuse("function(2)", x -> x.function(2, true), STATE);
        refuse("function(-1)", x -> x.function(-1, false), ARGUMENT);
        refuse("function(3)", x -> x.function(3, true), ARGUMENT);
        refuse("call of no function", x -> x.call(8, 0, 0), INDEX);
        refuse("rule of no function", x -> x.rule(8, 0, 0, 0), INDEX);
        refuse("unrule of no function", x -> x.unrule(8), INDEX);
        refuse("unrule of a function without rules", x -> x.unrule(7), STATE);
        return refused;
    }

    private static int tellFullOfRules(Choicepoint x) {
        x.function(0, false);
        x.function(2, false);
        x.function(1, false);
        int zero = x.data(0, 0, 0);
        int a = x.name(0);
        x.some(zero);
        for (int at = 0; at < 24; at++) {
            x.rule(at % 2, zero, a, at % 3 == 0 ? a : zero);
        }
        x.goal(x.call(0, 0, 0));
        return x.search(Choicepoint.DEPTH, 0);
    }

    private static List<Refused> ofFullOfRules() {
        refused = new ArrayList<>();
        refuse("rule", x -> x.rule(0, 0, 0, 0), STATE);
        refuse("rule of a function with 12", x -> x.rule(1, 0, 1, 0), STATE);
        refuse("rule of a function without rules", x -> x.rule(2, 0, 0, 0), STATE);
        refuse("rule of a pattern that is none", x -> x.rule(2, 2, 0, 0), ARGUMENT);
        refuse("rule of a name twice", x -> x.rule(1, 1, 1, 0), ARGUMENT);
        refuse("rule of no function", x -> x.rule(3, 2, 2, 0), INDEX);
        refuse("rule of no pattern", x -> x.rule(2, 9, 0, 0), INDEX);
        refuse("rule of no right side", x -> x.rule(2, 2, 0, 9), INDEX);
        refuse("unrule of a function without rules", x -> x.unrule(2), STATE);
        return refused;
    }

    // ---- values

    private static int tellValues(Choicepoint x) {
        x.function(0, false);
        int last = x.name(0);
        for (int at = 0; at < 11; at++) {
            x.rule(0, 0, 0, last);
            last = x.data(2, last, 0);
        }
        x.goal(x.data(4, 0, x.call(0, 0, 0)));
        return x.search(Choicepoint.BREADTH, 0);
    }

    private static List<Refused> ofValues() {
        refused = new ArrayList<>();
        for (int none : new int[] {10, -1, FAR, BELOW}) {
            refuse("part of " + none, x -> x.part(none, 0), INDEX);
            refuse("bound of " + none, x -> x.bound(none, 0, 0), INDEX);
            refuse("steps of " + none, x -> x.steps(none), INDEX);
            refuse("fate of " + none, x -> x.fate(none, 0), INDEX);
        }
        for (int none : new int[] {6, -1, FAR, BELOW}) {
            refuse("bound of the name " + none, x -> x.bound(0, none, 0), INDEX);
        }
        for (int none : new int[] {-1, BELOW}) {
            refuse("part at " + none, x -> x.part(9, none), INDEX);
            refuse("bound at " + none, x -> x.bound(9, 0, none), INDEX);
            refuse("bound of a name that is not in the goal, at " + none, x -> x.bound(9, 5, none), INDEX);
            refuse("fate at " + none, x -> x.fate(9, none), INDEX);
        }
        refuse("search(3)", x -> x.search(3, 0), ARGUMENT);
        refuse("goal of no node", x -> x.goal(-1), INDEX);
        refuse("within(11)", x -> x.within(11), ARGUMENT);
        refuseCounts();
        return refused;
    }
}
