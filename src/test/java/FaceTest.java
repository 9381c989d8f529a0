import java.io.IOException;
import java.lang.reflect.Constructor;
import java.lang.reflect.Field;
import java.lang.reflect.Method;
import java.lang.reflect.Modifier;
import java.nio.file.Files;
import java.nio.file.Path;
import java.util.Arrays;
import java.util.TreeSet;

/** The face of the class is the document's, and the source keeps away from what LANGUAGE.md leaves out. */
public final class FaceTest {
    private static final String[] FACE = {
        "function(int,boolean)", "name(int)", "data(int,int,int)", "call(int,int,int)", "either(int,int)",
        "same(int,int)", "unlike(int,int)", "some(int)", "drop()", "rule(int,int,int,int)", "unrule(int)", "many()",
        "goal(int)", "search(int,int)", "count(int)", "part(int,int)", "bound(int,int,int)", "steps(int)",
        "fate(int,int)", "within(int)"
    };
    private static final String[] LEFT_OUT = {
        "import ", "package ", "->", "::", "finally", "synchronized", "assert ", "protected", "getMessage",
        "Math.random", "nanoTime", "currentTimeMillis", "Thread", "catch (Exception", "catch (Runtime",
        "catch (Throwable", "catch (Null", "catch (Array", "catch (Arith", "catch (Class", "catch (Neg",
        "ArrayIndexOutOfBounds", "NullPointer", "Exact("
    };

    public static void main(String[] args) throws IOException {
        constants();
        members();
        classes();
        source();
        Expect.end("FaceTest");
    }

    private static void constants() {
        Expect.due("NONE", Choicepoint.NONE, -1);
        Expect.due("DEPTH", Choicepoint.DEPTH, 0);
        Expect.due("BREADTH", Choicepoint.BREADTH, 1);
        Expect.due("DRAWN", Choicepoint.DRAWN, 2);
    }

    private static void members() {
        Expect.isTrue("public and final", Modifier.isPublic(Choicepoint.class.getModifiers())
                && Modifier.isFinal(Choicepoint.class.getModifiers()));
        TreeSet<String> names = new TreeSet<>();
        TreeSet<String> publicNames = new TreeSet<>();
        for (Method method : Choicepoint.class.getDeclaredMethods()) {
            if (Modifier.isPublic(method.getModifiers())) {
                String text = method.toString();
                names.add(text.substring(text.lastIndexOf("Choicepoint.") + 12).replaceAll(" throws .*", ""));
                publicNames.add(method.getName());
                Expect.isTrue(method + " is of an object and returns an int",
                        method.getReturnType() == int.class && !Modifier.isStatic(method.getModifiers()));
            }
        }
        Expect.row("the methods", names.toString(), new TreeSet<>(Arrays.asList(FACE)).toString());
        for (Method method : Choicepoint.class.getDeclaredMethods()) {
            if (!Modifier.isPublic(method.getModifiers())) {
                Expect.isTrue(method + " is private and has a name of its own",
                        Modifier.isPrivate(method.getModifiers()) && !publicNames.contains(method.getName()));
            }
        }
        TreeSet<String> fields = new TreeSet<>();
        for (Field field : Choicepoint.class.getDeclaredFields()) {
            if (!Modifier.isPrivate(field.getModifiers())) {
                fields.add(field.getName());
            }
        }
        Expect.row("the constants", fields.toString(), "[BREADTH, DEPTH, DRAWN, NONE]");
        Constructor<?>[] made = Choicepoint.class.getDeclaredConstructors();
        Expect.isTrue("one public constructor", made.length == 1 && Modifier.isPublic(made[0].getModifiers())
                && made[0].getParameterCount() == 0);
    }

    private static void classes() {
        TreeSet<String> publicNames = new TreeSet<>();
        for (String method : FACE) {
            publicNames.add(method.substring(0, method.indexOf('(')));
        }
        Expect.isTrue("some twelve classes", Choicepoint.class.getDeclaredClasses().length <= 12);
        for (Class<?> inside : Choicepoint.class.getDeclaredClasses()) {
            Expect.isTrue(inside + " is private and static", Modifier.isPrivate(inside.getModifiers())
                    && Modifier.isStatic(inside.getModifiers()));
            Expect.isTrue(inside + " has some twenty fields", inside.getDeclaredFields().length <= 20);
            for (Method method : inside.getDeclaredMethods()) {
                Expect.isTrue(method + " has a name of its own", !publicNames.contains(method.getName()));
                Expect.isTrue(method + " has seven parameters at most", method.getParameterCount() <= 7);
            }
        }
    }

    private static void source() throws IOException {
        String text = Files.readString(Path.of("src/main/java/Choicepoint.java"));
        String code = text.replaceAll("(?s)/\\*.*?\\*/", "").replaceAll("//[^\n]*", "");
        for (String word : LEFT_OUT) {
            Expect.isTrue("the source is without " + word.trim(), !code.contains(word));
        }
        for (int at = 0; at < text.length(); at++) {
            if (text.charAt(at) > 126) {
                Expect.due("a sign of the source at " + at, text.charAt(at), 126);
            }
        }
    }
}
