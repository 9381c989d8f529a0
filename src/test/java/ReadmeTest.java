import java.io.IOException;
import java.lang.reflect.Method;
import java.lang.reflect.Modifier;
import java.nio.file.Files;
import java.nio.file.Path;
import java.util.regex.Matcher;
import java.util.regex.Pattern;

/** What README.md says holds: its examples, the calls that it lists, and the tests that it names. */
public final class ReadmeTest {
    private static final String[] EDGES = {"ProgramsEdgesTest", "RunsEdgesTest", "SearchesEdgesTest"};

    public static void main(String[] args) throws IOException {
        String text = Files.readString(Path.of("README.md"));
        appendExample();
        coinExample();
        sameExamples(text);
        allCalls(text);
        namedTests(text);
        namedEdges(text);
        Expect.end("ReadmeTest");
    }

    private static void appendExample() {
        Choicepoint x = new Choicepoint();
        int append = x.function(2, false);                 // append has two parts and is not rigid
        int a = x.name(0), b = x.name(1), c = x.name(2);   // nodes are told from the parts up
        int nil = x.data(0, 0, 0), item = x.data(1, 0, 0);
        x.rule(append, nil, b, b);                                              // append(nil, b) = b
        x.rule(append, x.data(4, a, c), b, x.data(4, a, x.call(append, c, b))); // append((a, c), b) = (a, append(c, b))
        int list = x.data(4, item, nil);
        x.goal(x.same(x.call(append, a, b), list));        // which a and b make the list?
        int found = x.search(Choicepoint.DEPTH, 0);        // 2 values
        int first = x.bound(0, 0, 0);                      // 0: in the first one, a is nil
        int second = x.bound(1, 0, 0);                     // 4: in the second one, a is a pair
        Expect.due("found", found, 2);
        Expect.due("first", first, 0);
        Expect.due("second", second, 4);
    }

    private static void coinExample() {
        Choicepoint y = new Choicepoint();
        int coin = y.function(0, false), twice = y.function(1, false);
        int part = y.name(0), zero = y.data(0, 0, 0), one = y.data(1, 0, 0);
        y.rule(coin, 0, 0, zero);                          // coin = zero
        y.rule(coin, 0, 0, one);                           // coin = one
        y.rule(twice, part, 0, y.data(4, part, part));     // twice(part) = (part, part)
        int many = y.many();                               // 1: coin alone, bit 0, can be many
        int toss = y.call(coin, 0, 0);
        y.goal(y.call(twice, toss, 0));
        int pairs = y.search(Choicepoint.BREADTH, 0);      // 2 values, not 4
        StringBuilder row = new StringBuilder();
        for (int place = 0; y.part(1, place) != Choicepoint.NONE; place++) {
            row.append(y.part(1, place)).append(' ');      // 4 1 1: the second one is (one, one)
        }
        int way = y.fate(1, 0);                            // 1: it took the second rule of coin
        int steps = y.steps(1);                            // 2: a call of twice, and one of coin
        int few = y.within(0);                             // 0: no value comes without a decision
        y.goal(y.some(y.same(toss, one)));
        int answers = y.search(Choicepoint.DRAWN, 7);      // 1 value
        int isSome = y.part(0, 0);                         // 1: yes, toss can be one
        int decisions = y.fate(0, 0);                      // NONE: the choice was not the goal's
        Expect.due("many", many, 1);
        Expect.due("pairs", pairs, 2);
        Expect.row("row", row.toString(), "4 1 1 ");
        Expect.due("way", way, 1);
        Expect.due("steps", steps, 2);
        Expect.due("few", few, 0);
        Expect.due("answers", answers, 1);
        Expect.due("isSome", isSome, 1);
        Expect.due("decisions", decisions, Choicepoint.NONE);
    }

    /** The examples that were run above stand in README.md line by line. */
    private static void sameExamples(String text) throws IOException {
        String source = Files.readString(Path.of("src/test/java/ReadmeTest.java"));
        Matcher example = Pattern.compile("(?s)```java\n(.*?)```").matcher(text);
        int many = 0;
        while (example.find()) {
            many++;
            String lines = example.group(1).replaceAll("(?m)^(?=.)", "        ");
            Expect.isTrue("example " + many + " of README.md was run", source.contains(lines));
        }
        Expect.due("examples of README.md", many, 2);
    }

    private static void allCalls(String text) {
        for (Method method : Choicepoint.class.getDeclaredMethods()) {
            if (Modifier.isPublic(method.getModifiers())) {
                Matcher row = Pattern.compile("(?m)^\\|.*`" + method.getName() + "\\(([^)]*)\\)`.*\\|.*\\|$").matcher(text);
                Expect.isTrue(method.getName() + " is listed in README.md", row.find());
                String parameters = row.reset().find() ? row.group(1) : "";
                Expect.due("parameters of " + method.getName() + " in README.md",
                        parameters.isEmpty() ? 0 : parameters.split(", ").length, method.getParameterCount());
            }
        }
    }

    private static void namedTests(String text) {
        Matcher named = Pattern.compile("`(\\w+Test)\\.(\\w+)`").matcher(text);
        int many = 0;
        while (named.find()) {
            many++;
            Expect.isTrue(named.group() + " is there", hasMethod(named.group(1), named.group(2)));
        }
        Expect.isTrue("tests are named", many > 100);
    }

    private static void namedEdges(String text) throws IOException {
        for (String test : EDGES) {
            String main = Files.readString(Path.of("src/test/java/" + test + ".java"));
            Matcher call = Pattern.compile("(?m)^        (\\w+)\\(\\);$")
                    .matcher(main.substring(main.indexOf("main("), main.indexOf("Expect.end(")));
            while (call.find()) {
                Expect.isTrue(test + "." + call.group(1) + " is named in README.md",
                        text.contains("`" + test + "." + call.group(1) + "`"));
            }
        }
    }

    private static boolean hasMethod(String test, String name) {
        try {
            for (Method method : Class.forName(test).getDeclaredMethods()) {
                if (method.getName().equals(name)) {
                    return true;
                }
            }
        } catch (ClassNotFoundException missing) {
            return false;
        }
        return false;
    }
}
