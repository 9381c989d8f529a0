import java.util.ArrayList;
import java.util.List;

/** Promises 15 to 21: searches and what they found. */
public final class SearchesTest {
    private static Choicepoint x;
    private static int zero;
    private static int one;
    private static int a;
    private static int b;

    public static void main(String[] args) {
        wrongSearches();
        depthAndBreadth();
        drawn();
        drawnOverflow();
        mostRuns();
        manySearches();
        counts();
        countAfterwards();
        parts();
        bounds();
        stepsAndFates();
        firstTenValues();
        within();
        withinMost();
        withinAround();
        Expect.end("SearchesTest");
    }

    private static void begin() {
        x = new Choicepoint();
        zero = x.data(0, 0, 0);
        one = x.data(1, 0, 0);
        a = x.name(0);
        b = x.name(1);
    }

    private static int pair(int left, int right) {
        return x.data(4, left, right);
    }

    private static int next(int part) {
        return x.data(2, part, 0);
    }

    private static void wrongSearches() {
        begin();
        Expect.argument("search(3), no goal", () -> x.search(3, 0));
        Expect.argument("search(-1), no goal", () -> x.search(-1, 0));
        Expect.state("search, no goal", () -> x.search(2, 5));
        x.goal(x.either(zero, one));
        Expect.due("search", x.search(0, 0), 2);
        Expect.argument("search(3)", () -> x.search(3, 0));
        Expect.argument("search(-1)", () -> x.search(-1, 0));
        Expect.argument("search far", () -> x.search(Integer.MAX_VALUE, 0));
        Expect.due("values after what threw", x.part(1, 0), 1);
        Expect.due("numbers after what threw", x.count(4), 3);
    }

    /** The values are the leaves of a tree: 0 at once, or 1 or 2(0) by a further decision, or 2(1). */
    private static int tellTree() {
        int f = x.function(0, false);
        int g = x.function(0, false);
        x.rule(f, 0, 0, x.call(g, 0, 0));
        x.rule(f, 0, 0, zero);
        x.rule(f, 0, 0, x.either(next(one), next(zero)));
        x.rule(g, 0, 0, one);
        x.rule(g, 0, 0, x.data(3, zero, 0));
        return x.call(f, 0, 0);
    }

    private static String found() {
        StringBuilder all = new StringBuilder();
        for (int value = 0; value < x.count(0); value++) {
            all.append(value == 0 ? "" : ", ").append(Expect.parts(x, value));
            all.append(" by ").append(Expect.fates(x, value));
        }
        return all.toString();
    }

    private static void depthAndBreadth() {
        begin();
        x.goal(tellTree());
        Expect.due("in depth", x.search(Choicepoint.DEPTH, 77), 5);
        Expect.row("in depth", found(), "1 by 0 0, 3 0 by 0 1, 0 by 1, 2 1 by 2 0, 2 0 by 2 1");
        Expect.due("in breadth", x.search(Choicepoint.BREADTH, -77), 5);
        Expect.row("in breadth", found(), "0 by 1, 1 by 0 0, 3 0 by 0 1, 2 1 by 2 0, 2 0 by 2 1");
        Expect.due("runs", x.count(4), 8);
        Expect.due("the row is empty", x.count(5), 1);
    }

    private static void drawn() {
        begin();
        x.goal(tellTree());
        String[] names = {"1 by 0 0", "3 0 by 0 1", "0 by 1", "2 1 by 2 0", "2 0 by 2 1"};
        for (int seed = -40; seed < 40; seed++) {
            List<String> row = new ArrayList<>(List.of(""));
            StringBuilder want = new StringBuilder();
            int state = seed;
            while (!row.isEmpty()) {
                state = state * 1103515245 + 12345;
                String taken = row.remove((state >>> 16) % row.size());
                if (taken.isEmpty()) {
                    row.addAll(List.of("0", "1", "2"));
                } else if (taken.equals("0") || taken.equals("2")) {
                    row.addAll(List.of(taken + " 0", taken + " 1"));
                } else {
                    for (String name : names) {
                        if (name.endsWith(" by " + taken)) {
                            want.append(want.length() == 0 ? "" : ", ").append(name);
                        }
                    }
                }
            }
            Expect.due("drawn", x.search(Choicepoint.DRAWN, seed), 5);
            Expect.row("drawn by " + seed, found(), want.toString());
        }
    }

    private static void drawnOverflow() {
        begin();
        x.goal(tellTree());
        for (int seed : new int[] {Integer.MAX_VALUE, Integer.MIN_VALUE, -1, 1 << 30, 2000000011}) {
            Expect.due("drawn by " + seed, x.search(Choicepoint.DRAWN, seed), 5);
            String first = found();
            x.search(Choicepoint.DRAWN, seed + 1);
            x.search(Choicepoint.DRAWN, seed);
            Expect.row("drawn by " + seed + " again", found(), first);
        }
    }

    /** Each decision has three ways, two of which go on for ever. */
    private static int tellEndless() {
        int f = x.function(0, false);
        x.rule(f, 0, 0, next(x.call(f, 0, 0)));
        x.rule(f, 0, 0, zero);
        x.rule(f, 0, 0, x.data(3, x.call(f, 0, 0), 0));
        return x.call(f, 0, 0);
    }

    private static void mostRuns() {
        begin();
        x.goal(tellEndless());
        // There are 190 runs of up to six given ways, with 63 values, and three more in the ten runs behind.
        Expect.due("in breadth", x.search(Choicepoint.BREADTH, 0), 66);
        Expect.due("runs", x.count(4), 200);
        Expect.due("rows are left", x.count(5), 0);
        // 40 runs branch; then a run is cut, and from the bottom up each is followed by a value and by as much again.
        Expect.due("in depth", x.search(Choicepoint.DEPTH, 0), 32 + 16 + 7);
        Expect.due("runs", x.count(4), 200);
        Expect.due("rows are left", x.count(5), 0);
        Expect.due("drawn", x.search(Choicepoint.DRAWN, 9) > 0 ? 1 : 0, 1);
        Expect.due("runs", x.count(4), 200);
        Expect.due("rows are left", x.count(5), 0);
    }

    /** 25 runs branch into 24 rows each, and of the 175 others each 24th branches again. */
    private static void manySearches() {
        begin();
        int f = x.function(0, false);
        for (int at = 0; at < 23; at++) {
            x.rule(f, 0, 0, x.drop() > 0 ? x.data(0, 0, 0) : 0);
        }
        x.rule(f, 0, 0, x.call(f, 0, 0));
        int call = x.call(f, 0, 0);
        x.goal(pair(call, call));
        for (int turn = 0; turn < 20; turn++) {
            Expect.due("in breadth", x.search(Choicepoint.BREADTH, 0), 175 - 7);
            Expect.due("runs", x.count(4), 200);
            Expect.due("rows are left", x.count(5), 0);
        }
    }

    private static void counts() {
        begin();
        int f = x.function(1, false);
        int rigid = x.function(1, true);
        int loop = x.function(0, false);
        int fail = x.function(0, false);
        x.rule(rigid, zero, 0, one);
        x.rule(loop, 0, 0, x.call(loop, 0, 0));
        x.rule(f, a, 0, a);
        x.rule(f, a, 0, x.call(rigid, a, 0));
        x.rule(f, a, 0, x.call(loop, 0, 0));
        x.rule(f, a, 0, x.call(fail, 0, 0));
        x.rule(f, a, 0, x.either(x.call(fail, 0, 0), one));
        x.goal(x.call(f, b, 0));
        Expect.argument("count(-1)", () -> x.count(-1));
        Expect.argument("count(6)", () -> x.count(6));
        for (int order = 0; order < 3; order++) {
            Expect.due("search", x.search(order, 3), 2);
            int[] want = {2, 2, 1, 1, 8, 1};
            for (int what = 0; what < 6; what++) {
                Expect.due("count " + what, x.count(what), want[what]);
            }
        }
        Expect.argument("count far", () -> x.count(Integer.MIN_VALUE));
    }

    private static void countAfterwards() {
        begin();
        x.goal(x.either(zero, one));
        x.search(0, 0);
        Expect.due("within", x.within(0), 0);
        Expect.due("numbers after within", x.count(4), 3);
        Expect.due("values after within", x.part(1, 0), 1);
        x.drop();
        x.function(0, false);
        Expect.due("numbers after drop", x.count(0), 2);
        x.goal(x.call(0, 0, 0));
        Expect.due("numbers after a goal", x.count(0), 2);
        Expect.due("numbers after a goal: failed", x.count(1), 0);
        Expect.due("search", x.search(1, 0), 0);
        Expect.due("numbers of the new one", x.count(0), 0);
        Expect.due("numbers of the new one: failed", x.count(1), 1);
        Expect.index("no value", () -> x.part(0, 0));
    }

    private static void parts() {
        begin();
        x.goal(x.either(pair(next(a), pair(b, a)), one));
        Expect.due("search", x.search(0, 0), 2);
        int[] want = {4, 2, 10, 4, 11, 10, -1, -1};
        for (int place = 0; place < want.length; place++) {
            Expect.due("part " + place, x.part(0, place), want[place]);
        }
        Expect.due("the second value", x.part(1, 0), 1);
        Expect.due("behind it", x.part(1, 1), -1);
        Expect.due("far behind it", x.part(1, Integer.MAX_VALUE), -1);
        Expect.index("part of no value", () -> x.part(2, 0));
        Expect.index("part of a value below", () -> x.part(-1, 0));
        Expect.index("part at a place below", () -> x.part(0, -1));
        Expect.index("part at a place far below", () -> x.part(0, Integer.MIN_VALUE));
        int twice = x.function(1, false);
        x.rule(twice, a, 0, pair(a, a));
        int big = next(b);
        for (int at = 0; at < 5; at++) {
            big = x.call(twice, big, 0);
        }
        x.goal(big);
        x.search(0, 0);
        Expect.row("40 numbers", Expect.parts(x, 0), "4 4 4 4 4 2 10 2 10 4 2 10 2 10 4 4 2 10 2 10 4 2 10 2 10 "
                + "4 4 4 2 10 2 10 4 2 10 2 10 4 4 2");
        Expect.due("a 41st number", x.part(0, 40), -1);
    }

    private static void bounds() {
        begin();
        int f = x.function(1, false);
        x.rule(f, pair(a, next(b)), 0, b);
        x.goal(pair(x.call(f, b, 0), pair(a, x.some(x.name(4)))));
        Expect.due("search", x.search(0, 0), 1);
        Expect.row("value", Expect.parts(x, 0), "4 10 4 11 1");
        int[] want = {4, 10, 2, 11, -1};
        for (int place = 0; place < want.length; place++) {
            Expect.due("bound " + place, x.bound(0, 1, place), want[place]);
        }
        Expect.row("a name that is open", Expect.bounds(x, 0, 0), "10");
        Expect.row("a name within a SOME", Expect.bounds(x, 0, 4), "10");
        Expect.due("a name of the rule alone", x.bound(0, 2, 0), -1);
        Expect.due("a name that is not there", x.bound(0, 5, 7), -1);
        Expect.due("far behind", x.bound(0, 1, Integer.MAX_VALUE), -1);
        Expect.index("bound of no value", () -> x.bound(1, 1, 0));
        Expect.index("bound of a value below", () -> x.bound(-1, 1, 0));
        Expect.index("bound of no name", () -> x.bound(0, 6, 0));
        Expect.index("bound of a name below", () -> x.bound(0, -1, 0));
        Expect.index("bound at a place below", () -> x.bound(0, 1, -1));
        Expect.index("bound of a name that is not there, at a place below", () -> x.bound(0, 5, -1));
        x.goal(zero);
        x.search(0, 0);
        Expect.due("a name of the goal ahead", x.bound(0, 1, 0), -1);
    }

    private static void stepsAndFates() {
        begin();
        int f = x.function(1, false);
        x.rule(f, zero, 0, one);
        x.rule(f, next(a), 0, x.call(f, x.either(a, zero), 0));
        x.goal(x.call(f, next(one), 0));
        Expect.due("search", x.search(1, 0), 1);
        Expect.row("fate", Expect.fates(x, 0), "1 0 1");
        Expect.due("steps", x.steps(0), 2);
        Expect.due("fate behind", x.fate(0, 3), -1);
        Expect.due("fate far behind", x.fate(0, Integer.MAX_VALUE), -1);
        Expect.index("steps of no value", () -> x.steps(1));
        Expect.index("steps of a value below", () -> x.steps(-1));
        Expect.index("fate of no value", () -> x.fate(1, 0));
        Expect.index("fate of a value below", () -> x.fate(-1, 0));
        Expect.index("fate at a place below", () -> x.fate(0, -1));
    }

    private static void firstTenValues() {
        begin();
        int f = x.function(0, false);
        int deep = zero;
        for (int at = 0; at < 11; at++) {
            x.rule(f, 0, 0, deep);
            deep = next(deep);
        }
        x.goal(x.call(f, 0, 0));
        Expect.due("eleven values", x.search(1, 0), 11);
        Expect.row("the tenth", Expect.parts(x, 9), "2 2 2 2 2 2 2 2 2 0");
        Expect.index("the eleventh is not kept", () -> x.part(10, 0));
        Expect.index("steps of the eleventh", () -> x.steps(10));
        Expect.due("count", x.count(0), 11);
        x.unrule(0);
        x.unrule(0);
        Expect.due("nine values", x.search(0, 0), 9);
        Expect.index("the tenth is no more", () -> x.part(9, 0));
    }

    private static void within() {
        begin();
        Expect.argument("within(-1), no goal", () -> x.within(-1));
        Expect.argument("within(11), no goal", () -> x.within(11));
        Expect.state("within, no goal", () -> x.within(10));
        x.goal(tellTree());
        Expect.argument("within(-1)", () -> x.within(-1));
        Expect.argument("within(11)", () -> x.within(11));
        Expect.due("within none", x.within(0), 0);
        Expect.due("within one", x.within(1), 1);
        Expect.due("within two", x.within(2), 5);
        Expect.due("within ten", x.within(10), 5);
        Expect.due("no search", x.count(4), 0);
        Expect.index("no value", () -> x.part(0, 0));
        x.goal(zero);
        Expect.due("a value without decisions", x.within(0), 1);
        Expect.due("a value without decisions, within ten", x.within(10), 1);
        int loop = x.function(0, false);
        x.rule(loop, 0, 0, x.call(loop, 0, 0));
        x.goal(x.either(x.call(loop, 0, 0), x.unlike(a, b)));
        Expect.due("what is cut, and what floats", x.within(10), 0);
        x.goal(x.call(x.function(0, false), 0, 0));
        Expect.due("what fails", x.within(10), 0);
    }

    /** Five, four, three and five ways: 300 values by 599 runs; with a way more, that fails, they are 600. */
    private static void withinMost() {
        begin();
        int five = x.function(0, false);
        int four = x.function(0, false);
        int three = x.function(0, false);
        int fail = x.function(0, false);
        int two = x.either(zero, one);
        x.rule(five, 0, 0, x.either(zero, two));
        x.rule(five, 0, 0, two);
        x.rule(four, 0, 0, x.either(two, two));
        x.rule(three, 0, 0, x.either(zero, two));
        int other = x.function(0, false);
        x.rule(other, 0, 0, x.either(two, x.either(zero, two)));
        x.goal(pair(pair(x.call(five, 0, 0), x.call(four, 0, 0)), pair(x.call(three, 0, 0), x.call(other, 0, 0))));
        Expect.due("599 runs", x.within(10), 300);
        Expect.due("fewer decisions", x.within(7), 36);
        x.rule(five, 0, 0, x.call(fail, 0, 0));
        Expect.due("600 runs", x.within(10), Choicepoint.NONE);
        Expect.due("fewer decisions again", x.within(7), 36);
        x.unrule(five);
        Expect.due("599 runs again", x.within(10), 300);
        x.goal(tellEndless());
        // The runs with at most n given ways are 1 + 3 (2^n - 1) many.
        Expect.due("382 runs", x.within(7), 127);
        Expect.due("766 runs", x.within(8), Choicepoint.NONE);
    }

    /** Decisions of runs within are not given; those of the run around that are come to in them are. */
    private static void withinAround() {
        begin();
        int f = x.function(1, false);
        x.rule(f, a, 0, x.some(a));
        x.goal(pair(x.some(x.either(zero, one)), x.call(f, x.either(zero, one), 0)));
        Expect.due("within none", x.within(0), 0);
        Expect.due("within one", x.within(1), 2);
    }
}
