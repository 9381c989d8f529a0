import java.io.IOException;
import java.lang.reflect.Method;
import java.nio.file.Files;
import java.nio.file.Path;
import java.util.regex.Matcher;
import java.util.regex.Pattern;

/** Each test that README.md names for a sentence of the document is there, and each of the edges is named. */
public final class ReadmeTest {
    private static final String[] EDGES = {"ProgramsEdgesTest", "RunsEdgesTest", "SearchesEdgesTest"};

    public static void main(String[] args) throws IOException {
        String text = Files.readString(Path.of("README.md"));
        Matcher named = Pattern.compile("`(\\w+Test)\\.(\\w+)`").matcher(text);
        int many = 0;
        while (named.find()) {
            many++;
            Expect.isTrue(named.group() + " is there", hasMethod(named.group(1), named.group(2)));
        }
        Expect.isTrue("tests are named", many > 100);
        for (String test : EDGES) {
            String main = Files.readString(Path.of("src/test/java/" + test + ".java"));
            Matcher call = Pattern.compile("(?m)^        (\\w+)\\(\\);$")
                    .matcher(main.substring(main.indexOf("main("), main.indexOf("Expect.end(")));
            while (call.find()) {
                Expect.isTrue(test + "." + call.group(1) + " is named in README.md",
                        text.contains("`" + test + "." + call.group(1) + "`"));
            }
        }
        Expect.end("ReadmeTest");
    }

    private static boolean hasMethod(String test, String name) {
        try {
            for (Method method : Class.forName(test).getDeclaredMethods()) {
                if (method.getName().equals(name)) {
                    return true;
                }
            }
        } catch (ClassNotFoundException missing) {
            return false;
        }
        return false;
    }
}
