import java.util.ArrayList;
import java.util.List;

/**
 * The edges of searches ("Searches" in Terms, and promises 15 to 21): the 200th run, the tenth value, the 40th
 * number, the 600th run of within, draws that overflow, nothing found, and places behind the last one.
 */
public final class SearchesEdgesTest {
    private static final int FAR = Integer.MAX_VALUE;
    private static final int BELOW = Integer.MIN_VALUE;

    private static Choicepoint x;
    private static int zero;
    private static int one;
    private static int a;
    private static int b;

    public static void main(String[] args) {
        nothingSearched();
        ordersAndWhats();
        nothingFound();
        lastRun();
        allRunsBranch();
        lastKeptValue();
        whatStays();
        drawsOfOneRow();
        drawsOfManyRows();
        drawsThatOverflow();
        lastNumber();
        leftSpine();
        manyOpenThings();
        boundsOfAllNames();
        lastFate();
        lastDecisionOfWithin();
        lastRunOfWithin();
        Expect.end("SearchesEdgesTest");
    }

    private static void begin() {
        x = new Choicepoint();
        retell();
    }

    private static void retell() {
        x.drop();
        zero = x.data(0, 0, 0);
        one = x.data(1, 0, 0);
        a = x.name(0);
        b = x.name(1);
    }

    private static int pair(int left, int right) {
        return x.data(4, left, right);
    }

    private static int next(int part) {
        return x.data(2, part, 0);
    }

    private static int rule(int right) {
        int f = x.function(0, false);
        x.rule(f, 0, 0, right);
        return x.call(f, 0, 0);
    }

    // ---- ahead of searches, and what is out of range

    private static void nothingSearched() {
        begin();
        for (int turn = 0; turn < 2; turn++) {
            for (int what = 0; what < 6; what++) {
                Expect.due("count " + what + " ahead of the first search", x.count(what), 0);
            }
            Expect.index("part", () -> x.part(0, 0));
            Expect.index("bound", () -> x.bound(0, 0, 0));
            Expect.index("steps", () -> x.steps(0));
            Expect.index("fate", () -> x.fate(0, 0));
            x.goal(zero);
            Expect.due("within", x.within(0), 1);
        }
    }

    private static void ordersAndWhats() {
        begin();
        x.goal(x.either(zero, one));
        for (int order = 0; order < 3; order++) {
            for (int seed : new int[] {0, -1, FAR, BELOW}) {
                Expect.due("search " + order, x.search(order, seed), 2);
            }
        }
        int[] want = {2, 0, 0, 0, 3, 1};
        for (int what = 0; what < 6; what++) {
            Expect.due("count " + what, x.count(what), want[what]);
        }
        for (int wrong : new int[] {-1, 3, FAR, BELOW}) {
            Expect.argument("search " + wrong, () -> x.search(wrong, 0));
        }
        for (int wrong : new int[] {-1, 6, FAR, BELOW}) {
            Expect.argument("count " + wrong, () -> x.count(wrong));
        }
        for (int wrong : new int[] {-1, 11, FAR, BELOW}) {
            Expect.argument("within " + wrong, () -> x.within(wrong));
        }
        for (int wrong : new int[] {-1, 2, FAR, BELOW}) {
            Expect.index("part of the value " + wrong, () -> x.part(wrong, 0));
            Expect.index("bound of the value " + wrong, () -> x.bound(wrong, 0, 0));
            Expect.index("steps of the value " + wrong, () -> x.steps(wrong));
            Expect.index("fate of the value " + wrong, () -> x.fate(wrong, 0));
        }
        for (int behind : new int[] {1, 39, 40, 41, FAR}) {
            Expect.due("part at " + behind, x.part(1, behind), Choicepoint.NONE);
            Expect.due("bound at " + behind, x.bound(1, 0, behind), Choicepoint.NONE);
            Expect.due("fate at " + behind, x.fate(1, behind), Choicepoint.NONE);
        }
    }

    private static void nothingFound() {
        begin();
        x.goal(x.same(zero, one));
        for (int order = 0; order < 3; order++) {
            Expect.due("no value", x.search(order, 1), 0);
            Expect.due("failed", x.count(1), 1);
            Expect.due("all runs", x.count(4), 1);
            Expect.due("the row is empty", x.count(5), 1);
            Expect.index("the first value", () -> x.part(0, 0));
            Expect.index("its steps", () -> x.steps(0));
        }
        x.goal(x.unlike(a, b));
        Expect.due("no value", x.search(0, 0), 0);
        Expect.due("floated", x.count(2), 1);
        Expect.due("failed ahead", x.count(1), 0);
        int loop = x.call(x.function(0, false), 0, 0);
        x.rule(0, 0, 0, loop);
        x.goal(loop);
        Expect.due("no value", x.search(0, 0), 0);
        Expect.due("cut", x.count(3), 1);
        Expect.due("floated ahead", x.count(2), 0);
        for (int decisions = 0; decisions <= 10; decisions++) {
            Expect.due("none within " + decisions, x.within(decisions), 0);
        }
    }

    // ---- runs and values

    /**
     * Nine ways by eleven come to 98 decisions of two ways. With two, three and four rules around them, one of
     * which goes there, these are 199, 200 and 201 runs.
     */
    private static void lastRun() {
        begin();
        int three = rule(x.either(zero, x.either(zero, x.either(zero, zero))));
        int nine = rule(comb(5, three));
        int six = rule(comb(5, zero));
        int eleven = rule(comb(5, six));
        int f = x.function(0, false);
        x.rule(f, 0, 0, pair(nine, eleven));
        x.rule(f, 0, 0, one);
        x.goal(x.call(f, 0, 0));
        for (int runs = 199; runs <= 201; runs++) {
            for (int order = 0; order < 3; order++) {
                int last = runs == 201 ? 1 : 0;
                Expect.due("values of " + runs, x.search(order, 7), runs == 199 ? 100 : 101);
                Expect.due("all of " + runs + " runs", x.count(4), runs - last);
                Expect.due("whether the row is empty after " + runs, x.count(5), 1 - last);
                Expect.due("runs that branched", x.count(4) - x.count(0), 99);
            }
            x.rule(f, 0, 0, zero);
        }
    }

    private static int comb(int choices, int last) {
        int node = last;
        for (int at = 0; at < choices; at++) {
            node = x.either(zero, node);
        }
        return node;
    }

    /** 200 runs of 24 ways each leave 4601 rows, the most that there may be. */
    private static void allRunsBranch() {
        begin();
        int f = x.function(0, false);
        int call = x.call(f, 0, 0);
        for (int at = 0; at < 24; at++) {
            x.rule(f, 0, 0, call);
        }
        x.goal(call);
        for (int turn = 0; turn < 2; turn++) {
            Expect.due("in breadth", x.search(Choicepoint.BREADTH, 0), 0);
            Expect.due("all runs", x.count(4), 200);
            Expect.due("none was cut", x.count(3), 0);
            Expect.due("rows are left", x.count(5), 0);
            Expect.due("in depth", x.search(Choicepoint.DEPTH, 0), 0);
            Expect.due("40 runs branch, the others are cut", x.count(3), 200 - 40 - 6);
            Expect.due("rows are left", x.count(5), 0);
            Expect.due("drawn", x.search(Choicepoint.DRAWN, 11), 0);
            Expect.due("all runs", x.count(4), 200);
            Expect.due("rows are left", x.count(5), 0);
            Expect.due("within", x.within(1), 0);
            Expect.due("601 runs within", x.within(2), Choicepoint.NONE);
        }
    }

    private static void lastKeptValue() {
        begin();
        int f = x.function(0, false);
        x.goal(x.call(f, 0, 0));
        int deep = zero;
        for (int rules = 1; rules <= 12; rules++) {
            x.rule(f, 0, 0, deep);
            deep = rules < 11 ? next(deep) : zero;
            for (int order = 0; order < 2; order++) {
                Expect.due("values", x.search(order, 0), rules);
                int kept = rules < 10 ? rules : 10;
                Expect.due("the last one that is kept", x.part(kept - 1, kept - 1), 0);
                Expect.due("its steps", x.steps(kept - 1), 1);
                Expect.due("its fate", x.fate(kept - 1, 0), rules == 1 ? Choicepoint.NONE : kept - 1);
                Expect.index("one more", () -> x.part(kept, 0));
                Expect.index("bound of one more", () -> x.bound(kept, 0, 0));
                Expect.index("steps of one more", () -> x.steps(kept));
                Expect.index("fate of one more", () -> x.fate(kept, 0));
            }
        }
    }

    /** A goal alone, and the next search, take values away; what is told meanwhile does not. */
    private static void whatStays() {
        begin();
        int f = x.function(0, false);
        x.rule(f, 0, 0, pair(a, b));
        x.rule(f, 0, 0, one);
        x.goal(x.call(f, 0, 0));
        Expect.due("search", x.search(Choicepoint.BREADTH, 0), 2);
        x.rule(f, 0, 0, zero);
        x.unrule(f);
        x.unrule(f);
        x.function(2, true);
        Expect.due("another tree", x.within(0), 1);
        Expect.due("dropped", x.drop(), 6);
        Expect.due("values stay", x.part(0, 2), 11);
        Expect.due("values stay", x.part(1, 0), 1);
        Expect.due("fates stay", x.fate(1, 0), 1);
        Expect.due("numbers stay", x.count(4), 3);
        Expect.due("a new search", x.search(Choicepoint.BREADTH, 0), 1);
        Expect.index("the second value is no more", () -> x.part(1, 0));
        Expect.due("without a decision", x.fate(0, 0), Choicepoint.NONE);
        Expect.due("numbers of the new one", x.count(4), 1);
        x.unrule(f);
        Expect.due("a search without values", x.search(Choicepoint.BREADTH, 0), 0);
        Expect.index("the first value is no more", () -> x.part(0, 0));
        x.goal(x.name(3));
        Expect.due("numbers stay after a goal", x.count(1), 1);
        Expect.due("a search of the new goal", x.search(Choicepoint.BREADTH, 0), 1);
        Expect.due("its name", x.bound(0, 3, 0), 10);
        x.goal(x.name(3));
        Expect.index("its values are no more", () -> x.part(0, 0));
        Expect.due("its numbers stay", x.count(0), 1);
    }

    // ---- draws

    /** The draws, in wider numbers: what is left of each 64 bits is what 32 bits hold. */
    private static final class Draws {
        private long state;

        private Draws(int seed) {
            state = seed & 0xFFFFFFFFL;
        }

        private int draw(int bound) {
            state = (state * 1103515245L + 12345L) & 0xFFFFFFFFL;
            return (int) (state / 65536 % bound);
        }
    }

    /** A number is drawn for one row alone, too: for the first one, and wherever the others were taken. */
    private static void drawsOfOneRow() {
        begin();
        int f = x.function(0, false);
        int g = x.function(1, false);
        x.rule(f, 0, 0, x.either(x.either(zero, one), x.either(next(zero), next(one))));
        x.rule(g, a, 0, a);
        x.goal(x.call(g, x.call(f, 0, 0), 0));
        String[] values = {"0", "1", "2 0", "2 1"};
        for (int seed = -30; seed < 30; seed++) {
            Draws draws = new Draws(seed);
            List<String> row = new ArrayList<>(List.of(""));
            StringBuilder want = new StringBuilder();
            while (!row.isEmpty()) {
                String taken = row.remove(draws.draw(row.size()));
                if (taken.length() < 2) {
                    row.addAll(List.of(taken + "0", taken + "1"));
                } else {
                    want.append(values[Integer.parseInt(taken, 2)]).append(';');
                }
            }
            Expect.due("search", x.search(Choicepoint.DRAWN, seed), 4);
            StringBuilder got = new StringBuilder();
            for (int value = 0; value < 4; value++) {
                got.append(Expect.parts(x, value)).append(';');
            }
            Expect.row("drawn by " + seed, got.toString(), want.toString());
        }
    }

    /** 24 ways, twelve of which go on: there are hundreds of rows to draw from. */
    private static void drawsOfManyRows() {
        begin();
        int f = x.function(0, false);
        int call = x.call(f, 0, 0);
        for (int at = 0; at < 24; at++) {
            x.rule(f, 0, 0, at % 2 == 0 ? call : zero);
        }
        x.goal(call);
        for (int seed : new int[] {0, 1, -1, 2026, FAR, BELOW}) {
            Draws draws = new Draws(seed);
            List<List<Integer>> row = new ArrayList<>();
            row.add(List.of());
            List<List<Integer>> found = new ArrayList<>();
            for (int runs = 0; runs < 200 && !row.isEmpty(); runs++) {
                List<Integer> taken = row.remove(draws.draw(row.size()));
                if (!taken.isEmpty() && taken.get(taken.size() - 1) % 2 != 0) {
                    found.add(taken);
                } else if (taken.size() < 40) {
                    addWays(row, taken);
                }
            }
            Expect.due("values drawn by " + seed, x.search(Choicepoint.DRAWN, seed), found.size());
            for (int value = 0; value < 10; value++) {
                Expect.row("drawn by " + seed, "[" + Expect.fates(x, value).replace(" ", ", ") + "]",
                        found.get(value).toString());
                Expect.due("steps", x.steps(value), found.get(value).size());
            }
        }
    }

    private static void addWays(List<List<Integer>> row, List<Integer> taken) {
        for (int way = 0; way < 24; way++) {
            List<Integer> more = new ArrayList<>(taken);
            more.add(way);
            row.add(more);
        }
    }

    /** The seed is the state: its greatest and its lowest number, and those whose product is far too great. */
    private static void drawsThatOverflow() {
        begin();
        int f = x.function(0, false);
        for (int at = 0; at < 24; at++) {
            x.rule(f, 0, 0, zero);
        }
        x.goal(x.call(f, 0, 0));
        int[] seeds = {0, 1, -1, FAR, BELOW, FAR - 1, BELOW + 1, 1 << 16, 1 << 30, -(1 << 30), 0x7FFF0000, 12345};
        for (int seed : seeds) {
            Draws draws = new Draws(seed);
            draws.draw(1);
            List<Integer> left = new ArrayList<>();
            for (int way = 0; way < 24; way++) {
                left.add(way);
            }
            Expect.due("24 values", x.search(Choicepoint.DRAWN, seed), 24);
            for (int value = 0; value < 10; value++) {
                int due = left.remove(draws.draw(left.size()));
                Expect.due("draw " + value + " by " + seed, x.fate(value, 0), due);
            }
        }
    }

    // ---- rows of numbers

    /** A value of 39, 40 and 41 numbers: only the first 40 are kept, of a name's row likewise. */
    private static void lastNumber() {
        begin();
        int ten = a;
        for (int at = 0; at < 10; at++) {
            ten = next(ten);
        }
        int f = x.function(1, false);
        x.rule(f, a, 0, ten);
        retell();
        for (int numbers = 39; numbers <= 41; numbers++) {
            int node = zero;
            for (int at = 1; at < numbers - 30; at++) {
                node = next(node);
            }
            int goal = x.call(f, x.call(f, x.call(f, rule(node), 0), 0), 0);
            x.goal(x.same(b, goal));
            Expect.due("search", x.search(Choicepoint.DEPTH, 0), 1);
            Expect.due("number 38 of " + numbers, x.bound(0, 1, 38), numbers == 39 ? 0 : 2);
            Expect.due("number 39 of " + numbers, x.bound(0, 1, 39), numbers == 39 ? -1 : numbers == 40 ? 0 : 2);
            Expect.due("number 40 of " + numbers, x.bound(0, 1, 40), -1);
            x.goal(goal);
            Expect.due("search", x.search(Choicepoint.DEPTH, 0), 1);
            Expect.due("the first number", x.part(0, 0), 2);
            Expect.due("part 38 of " + numbers, x.part(0, 38), numbers == 39 ? 0 : 2);
            Expect.due("part 39 of " + numbers, x.part(0, 39), numbers == 39 ? -1 : numbers == 40 ? 0 : 2);
            Expect.due("part 40 of " + numbers, x.part(0, 40), -1);
        }
    }

    /** Forty pairs, each the first part of the next one: what is still to be told grows with each number. */
    private static void leftSpine() {
        begin();
        int five = a;
        for (int at = 0; at < 5; at++) {
            five = pair(five, one);
        }
        int f = x.function(1, false);
        x.rule(f, a, 0, five);
        retell();
        int spine = zero;
        for (int at = 0; at < 8; at++) {
            spine = x.call(f, spine, 0);
        }
        x.goal(spine);
        Expect.due("search", x.search(Choicepoint.DEPTH, 0), 1);
        for (int place = 0; place < 40; place++) {
            Expect.due("a pair at " + place, x.part(0, place), 4);
        }
        Expect.due("behind 40 pairs", x.part(0, 40), -1);
        x.goal(x.same(b, pair(zero, rule(spine))));
        Expect.due("search", x.search(Choicepoint.DEPTH, 0), 1);
        Expect.due("the first part", x.bound(0, 1, 1), 0);
        Expect.due("the 40th number", x.bound(0, 1, 39), 4);
        Expect.due("behind it", x.bound(0, 1, 40), -1);
    }

    /** Unlike open things are told by unlike numbers, as many as there are in 40; one that comes again by its own. */
    private static void manyOpenThings() {
        begin();
        int c = x.name(2);
        int d = x.name(3);
        int six = rule(pair(pair(pair(a, b), pair(c, d)), pair(x.name(4), x.name(5))));
        x.goal(pair(six, pair(six, pair(six, six))));
        Expect.due("search", x.search(Choicepoint.DEPTH, 0), 1);
        int open = 10;
        StringBuilder want = new StringBuilder();
        for (int at = 0; at < 4; at++) {
            want.append(at < 3 ? "4 " : "");
            want.append("4 4 4 ").append(open).append(' ').append(open + 1).append(" 4 ").append(open + 2);
            want.append(' ').append(open + 3).append(" 4 ").append(open + 4).append(' ').append(open + 5).append(' ');
            open += 6;
        }
        String[] numbers = want.toString().split(" ");
        for (int place = 0; place < 40; place++) {
            Expect.due("number " + place, x.part(0, place), Integer.parseInt(numbers[place]));
        }
        x.goal(pair(b, pair(a, pair(b, pair(next(d), pair(a, d))))));
        Expect.due("search", x.search(Choicepoint.DEPTH, 0), 1);
        Expect.row("those that come again", Expect.parts(x, 0), "4 10 4 11 4 10 4 2 12 4 11 12");
        Expect.row("a row of its own", Expect.bounds(x, 0, 3), "10");
        Expect.row("a row of its own", Expect.bounds(x, 0, 0), "10");
    }

    private static void boundsOfAllNames() {
        begin();
        int f = x.name(5);
        x.goal(pair(x.same(pair(a, f), pair(next(b), x.data(3, b, 0))), x.some(x.name(4))));
        Expect.due("search", x.search(Choicepoint.DEPTH, 0), 1);
        String[] rows = {"2 10", "10", "", "", "10", "3 10"};
        for (int name = 0; name < 6; name++) {
            Expect.row("the name " + name, Expect.bounds(x, 0, name), rows[name]);
            int its = name;
            Expect.due("far behind, of " + name, x.bound(0, name, FAR), Choicepoint.NONE);
            Expect.index("below, of " + name, () -> x.bound(0, its, -1));
        }
        for (int wrong : new int[] {-1, 6, FAR, BELOW}) {
            Expect.index("the name " + wrong, () -> x.bound(0, wrong, 0));
        }
        x.goal(x.some(x.some(f)));
        Expect.due("search", x.search(Choicepoint.DEPTH, 0), 1);
        Expect.row("a name within two", Expect.bounds(x, 0, 5), "10");
        Expect.row("a name that is no more in the goal", Expect.bounds(x, 0, 0), "");
    }

    /** No decision, one and forty. */
    private static void lastFate() {
        begin();
        x.goal(zero);
        x.search(Choicepoint.DEPTH, 0);
        Expect.due("no decision", x.fate(0, 0), -1);
        Expect.due("no step", x.steps(0), 0);
        int f = x.function(0, false);
        int call = x.call(f, 0, 0);
        x.rule(f, 0, 0, zero);
        x.rule(f, 0, 0, call);
        x.goal(call);
        Expect.due("40 values", x.search(Choicepoint.DEPTH, 0), 40);
        Expect.row("the tenth", Expect.fates(x, 9), "1 1 1 1 1 1 1 1 1 0");
        Expect.due("the steps of the tenth", x.steps(9), 10);
        x.unrule(f);
        x.unrule(f);
        x.rule(f, 0, 0, call);
        x.rule(f, 0, 0, zero);
        Expect.due("40 values, the deepest one first", x.search(Choicepoint.DEPTH, 0), 40);
        for (int place = 0; place < 40; place++) {
            Expect.due("way " + place, x.fate(0, place), place < 39 ? 0 : 1);
            Expect.due("way " + place + " of the second value", x.fate(1, place), place < 38 ? 0 : place == 38 ? 1 : -1);
        }
        Expect.due("behind 40", x.fate(0, 40), -1);
        Expect.due("far behind", x.fate(0, FAR), -1);
        Expect.index("a place below", () -> x.fate(0, -1));
        Expect.index("a place far below", () -> x.fate(0, BELOW));
    }

    // ---- within

    /** A value of ten decisions is there within ten, not within nine; one of eleven is not. */
    private static void lastDecisionOfWithin() {
        begin();
        int f = x.function(0, false);
        int call = x.call(f, 0, 0);
        x.rule(f, 0, 0, call);
        x.rule(f, 0, 0, zero);
        x.goal(call);
        for (int decisions = 0; decisions <= 10; decisions++) {
            Expect.due("values within " + decisions, x.within(decisions), decisions);
        }
        x.goal(one);
        for (int decisions = 0; decisions <= 10; decisions++) {
            Expect.due("a value without decisions within " + decisions, x.within(decisions), 1);
        }
        int fail = x.call(x.function(0, false), 0, 0);
        int row = one;
        for (int at = 0; at < 5; at++) {
            row = x.either(row, fail);
        }
        int five = rule(row);
        x.goal(pair(five, five));
        Expect.due("ten decisions within nine", x.within(9), 0);
        Expect.due("ten decisions within ten", x.within(10), 1);
        x.goal(pair(pair(five, five), x.either(zero, zero)));
        Expect.due("eleven decisions within ten", x.within(10), 0);
    }

    /** 13 leaves by 23 come to 298 decisions of two ways, ten deep at most: with two rules around, 599 runs. */
    private static void lastRunOfWithin() {
        begin();
        int four = rule(x.either(x.either(zero, zero), x.either(zero, one)));
        int eight = rule(x.either(four, four));
        int thirteen = rule(x.either(x.either(four, four), x.either(four, zero)));
        int seven = x.either(four, x.either(zero, x.either(zero, one)));
        int many = rule(x.either(x.either(eight, eight), seven));
        int f = x.function(0, false);
        x.rule(f, 0, 0, pair(thirteen, many));
        x.goal(x.call(f, 0, 0));
        Expect.due("597 runs", x.within(9), 299);
        x.rule(f, 0, 0, one);
        Expect.due("599 runs", x.within(10), 300);
        // 12 of the 13 leaves are four decisions deep, 16 of the 23 five.
        Expect.due("of fewer decisions", x.within(9), 300 - 12 * 16);
        x.rule(f, 0, 0, one);
        Expect.due("600 runs", x.within(10), Choicepoint.NONE);
        Expect.due("of fewer decisions", x.within(9), 301 - 12 * 16);
        x.rule(f, 0, 0, one);
        Expect.due("601 runs", x.within(10), Choicepoint.NONE);
        x.unrule(f);
        x.unrule(f);
        Expect.due("599 runs again", x.within(10), 300);
        x.rule(f, 0, 0, x.unlike(a, b));
        Expect.due("600 runs, one of which floats", x.within(10), Choicepoint.NONE);
    }
}
