import java.util.ArrayList;
import java.util.List;
import java.util.Random;

/**
 * Random programs, the same ones each time: each call is made of Choicepoint and of the Oracle, and has to
 * be answered alike, exceptions too. With an argument, as many programs; with a second one, from that seed.
 */
public final class RandomTest {
    private interface Call {
        int make();
    }

    private final Random random;
    private final Choicepoint tested = new Choicepoint();
    private final Oracle oracle = new Oracle();
    private final List<String> log = new ArrayList<>();
    private final int[] outcomes;
    /** How often is told: data, a call, EITHER, SAME, UNLIKE, SOME, a name. */
    private final int[] weights = {2, 4, 1, 1, 1, 2, 1};
    private int calls = 0;
    private int nodes = 0;
    private final List<Integer> patterns = new ArrayList<>();
    private final List<Integer> parts = new ArrayList<>();

    private RandomTest(long seed, int[] outcomes) {
        random = new Random(seed);
        this.outcomes = outcomes;
        if (isOneOf(2)) {
            for (int at = 0; at < weights.length; at++) {
                weights[at] = 1 + pick(isOneOf(3) ? 16 : 4);
            }
        }
    }

    public static void main(String[] args) throws InterruptedException {
        int programs = args.length > 0 ? Integer.parseInt(args[0]) : 1500;
        int first = args.length > 1 ? Integer.parseInt(args[1]) : 1;
        boolean[] isRight = {true};
        Thread thread = new Thread(null, () -> isRight[0] = runAll(programs, first), "random", 1L << 27);
        thread.start();
        thread.join();
        if (!isRight[0]) {
            System.exit(1);
        }
    }

    private static boolean runAll(int programs, int first) {
        int[] outcomes = new int[6];
        for (int at = first; at < first + programs; at++) {
            RandomTest test = new RandomTest(at, outcomes);
            try {
                test.run();
            } catch (RuntimeException | StackOverflowError | AssertionError wrong) {
                System.out.println("program " + at + ": " + wrong);
                int from = Math.max(0, test.log.size() - 120);
                for (String line : test.log.subList(from, test.log.size())) {
                    System.out.println("  " + line);
                }
                return false;
            }
        }
        System.out.println(programs + " programs; runs with a value " + outcomes[0] + ", failed " + outcomes[1]
                + ", floated " + outcomes[2] + ", cut " + outcomes[3] + ", in all " + outcomes[4]);
        return true;
    }

    private static String answer(Call call) {
        try {
            return Integer.toString(call.make());
        } catch (IndexOutOfBoundsException | IllegalArgumentException | IllegalStateException thrown) {
            return thrown.getClass().getName();
        }
    }

    /** Returns the answer, or NONE if the call throws. */
    private int both(String what, Call mine, Call its) {
        if (calls >= 512) {
            return Choicepoint.NONE;
        }
        calls++;
        String got = answer(mine);
        log.add(what + " = " + got);
        String due = answer(its);
        if (!got.equals(due)) {
            throw new IllegalStateException(what + " answered " + got + ", due is " + due);
        }
        return Character.isLetter(got.charAt(0)) ? Choicepoint.NONE : Integer.parseInt(got);
    }

    private int pick(int bound) {
        return bound <= 0 ? 0 : random.nextInt(bound);
    }

    private boolean isOneOf(int many) {
        return random.nextInt(many) == 0;
    }

    private int far() {
        return isOneOf(2) ? random.nextInt() : isOneOf(2) ? Integer.MAX_VALUE : Integer.MIN_VALUE;
    }

    /** A node, of the later ones more often; now and then one that is not there. */
    private int node() {
        if (isOneOf(150)) {
            return isOneOf(3) ? far() : pick(100) - 5;
        }
        return isOneOf(2) ? pick(nodes) : Math.max(0, nodes - 1 - pick(10));
    }

    private void run() {
        int functions = 1 + pick(4);
        for (int at = 0; at < functions; at++) {
            int itsParts = isOneOf(30) ? pick(6) - 2 : pick(3);
            boolean isRigid = isOneOf(5);
            int number = both("function(" + itsParts + ", " + isRigid + ")",
                    () -> tested.function(itsParts, isRigid), () -> oracle.function(itsParts, isRigid));
            if (number >= 0) {
                parts.add(itsParts);
            }
        }
        for (int round = 0; round < 4 && calls < 480; round++) {
            tellAll();
            addRules();
            both("many()", tested::many, oracle::many);
            for (int goals = 1 + pick(3); goals > 0; goals--) {
                int goal = node();
                both("goal(" + goal + ")", () -> tested.goal(goal), () -> oracle.goal(goal));
                searchAll();
                if (isOneOf(3)) {
                    changeRules();
                    searchAll();
                }
            }
        }
    }

    private void tellAll() {
        if (nodes > 40 || isOneOf(3)) {
            both("drop()", tested::drop, oracle::drop);
            nodes = 0;
            patterns.clear();
        }
        for (int number = 0; number < 2 + pick(3); number++) {
            tellName(number);
        }
        for (int kind = 0; kind < 2; kind++) {
            tellData(kind);
        }
        for (int more = 2 + pick(4); more > 0; more--) {
            tellData(2 + pick(4));
        }
        for (int more = 10 + pick(20); more > 0; more--) {
            tellAny();
        }
    }

    private void noteNode(int number, boolean isPattern) {
        if (number >= 0) {
            nodes = number + 1;
            if (isPattern) {
                patterns.add(number);
            }
        }
    }

    private void tellName(int number) {
        noteNode(both("name(" + number + ")", () -> tested.name(number), () -> oracle.name(number)), true);
    }

    private void tellData(int kind) {
        int a = isOneOf(3) ? node() : pattern();
        int b = isOneOf(3) ? node() : pattern();
        boolean isPattern = (kind < 2 || patterns.contains(a)) && (kind < 4 || patterns.contains(b));
        noteNode(both("data(" + kind + ", " + a + ", " + b + ")",
                () -> tested.data(kind, a, b), () -> oracle.data(kind, a, b)), isPattern);
    }

    private int pattern() {
        return patterns.isEmpty() ? 0 : patterns.get(pick(patterns.size()));
    }

    private void tellAny() {
        int a = node();
        int b = node();
        String with = "(" + a + ", " + b + ")";
        switch (drawTag()) {
            case 0 -> tellData(isOneOf(20) ? pick(9) - 2 : pick(6));
            case 1 -> {
                int function = isOneOf(40) ? pick(12) - 2 : pick(parts.size());
                noteNode(both("call(" + function + ", " + a + ", " + b + ")",
                        () -> tested.call(function, a, b), () -> oracle.call(function, a, b)), false);
            }
            case 2 -> noteNode(both("either" + with, () -> tested.either(a, b), () -> oracle.either(a, b)), false);
            case 3 -> noteNode(both("same" + with, () -> tested.same(a, b), () -> oracle.same(a, b)), false);
            case 4 -> noteNode(both("unlike" + with, () -> tested.unlike(a, b), () -> oracle.unlike(a, b)), false);
            case 5 -> noteNode(both("some(" + a + ")", () -> tested.some(a), () -> oracle.some(a)), false);
            default -> tellName(isOneOf(20) ? pick(10) - 2 : pick(4));
        }
    }

    /** About half of the programs have weights of their own, so that some are mostly of SOME and SAME, say. */
    private int drawTag() {
        int all = 0;
        for (int weight : weights) {
            all += weight;
        }
        int drawn = pick(all);
        int tag = 0;
        while (drawn >= weights[tag]) {
            drawn -= weights[tag];
            tag++;
        }
        return tag;
    }

    private void addRules() {
        for (int more = 2 + pick(7); more > 0; more--) {
            int function = isOneOf(40) ? pick(12) - 2 : pick(parts.size());
            int a = isOneOf(40) ? node() : pattern();
            int b = isOneOf(40) ? node() : pattern();
            int right = node();
            both("rule(" + function + ", " + a + ", " + b + ", " + right + ")",
                    () -> tested.rule(function, a, b, right), () -> oracle.rule(function, a, b, right));
        }
    }

    private void changeRules() {
        int function = isOneOf(20) ? pick(12) - 2 : pick(parts.size());
        both("unrule(" + function + ")", () -> tested.unrule(function), () -> oracle.unrule(function));
    }

    private void searchAll() {
        int order = isOneOf(40) ? pick(7) - 2 : pick(3);
        int seed = random.nextInt();
        int found = both("search(" + order + ", " + seed + ")",
                () -> tested.search(order, seed), () -> oracle.search(order, seed));
        for (int what = 0; what < 6; what++) {
            int number = what;
            int answered = both("count(" + what + ")", () -> tested.count(number), () -> oracle.count(number));
            outcomes[what] += Math.max(0, answered);
        }
        int kept = Math.min(10, Math.max(0, found));
        int decisions = isOneOf(20) ? pick(14) - 2 : pick(11);
        both("within(" + decisions + ")", () -> tested.within(decisions), () -> oracle.within(decisions));
        for (int value = 0; value < kept; value++) {
            compareValue(value);
        }
        ask(isOneOf(30) ? far() : pick(14) - 2, isOneOf(30) ? far() : pick(9) - 2, isOneOf(30) ? far() : pick(60) - 2);
    }

    /** Whole rows are compared apart from the calls, of which there are few. */
    private void compareValue(int value) {
        StringBuilder mine = new StringBuilder();
        StringBuilder its = new StringBuilder();
        mine.append(tested.steps(value));
        its.append(oracle.steps(value));
        for (int place = 0; place < 42; place++) {
            mine.append(' ').append(tested.part(value, place)).append(',').append(tested.fate(value, place));
            its.append(' ').append(oracle.part(value, place)).append(',').append(oracle.fate(value, place));
            for (int name = 0; name < 6; name++) {
                mine.append(',').append(tested.bound(value, name, place));
                its.append(',').append(oracle.bound(value, name, place));
            }
        }
        if (!mine.toString().equals(its.toString())) {
            throw new IllegalStateException("value " + value + ": " + mine + "; due is " + its);
        }
    }

    private void ask(int value, int name, int place) {
        String with = "(" + value + ", " + place + ")";
        both("part" + with, () -> tested.part(value, place), () -> oracle.part(value, place));
        both("fate" + with, () -> tested.fate(value, place), () -> oracle.fate(value, place));
        both("steps(" + value + ")", () -> tested.steps(value), () -> oracle.steps(value));
        both("bound(" + value + ", " + name + ", " + place + ")",
                () -> tested.bound(value, name, place), () -> oracle.bound(value, name, place));
        both("count(" + name + ")", () -> tested.count(name), () -> oracle.count(name));
    }
}
