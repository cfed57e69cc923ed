import java.io.IOException;
import java.lang.reflect.Field;
import java.lang.reflect.Method;
import java.lang.reflect.Modifier;
import java.nio.file.Files;
import java.nio.file.Path;
import java.util.Set;
import java.util.TreeSet;
import java.util.regex.Matcher;
import java.util.regex.Pattern;

/** The document's face, and those rules of LANGUAGE.md that the text of the file shows. */
public final class FaceTest {
    private static final String FACE = "change(6) changed(3) clear(1) fails(3) far(4) fault(0) fit(5) holds(4) line(5)"
        + " orders(4) pair(6) part(4) run(3) say(1) saying(0) shape(5) silent(2) so(3) tell(3) told(1) wait(3)"
        + " walk(4) wipe(0)";
    private static final String[] RULED_OUT = {"\\b(throw|throws|try|catch|synchronized|assert|finally)\\b", "->", "::",
        "@", "\\bprotected\\b", "\\b\\w+Exact\\b", "\\bSystem\\.(?!arraycopy)", "\\bArrays\\.(?!fill|copyOf)",
        "\\b(hashCode|toString|equals)\\b", "\\bstatic\\s*\\{", "^package\\b", "import (?!java\\.util\\.Arrays;)",
        "\\bvar\\b", "\\bnew\\s+\\w+\\s*\\([^)]*\\)\\s*\\{"};

    private static int wrong = 0;

    private static void due(String what, Object got, Object want) {
        if (!got.equals(want)) {
            wrong++;
            System.out.println(what + " is " + got + ", due is " + want);
        }
    }

    private static void lookAtMembers() {
        due("the class", Modifier.toString(TwinRuns.class.getModifiers()), "public final");
        due("constructors", TwinRuns.class.getDeclaredConstructors().length, 1);
        due("public constructors", TwinRuns.class.getConstructors().length, 1);
        Set<String> names = new TreeSet<>();
        Set<String> hidden = new TreeSet<>();
        for (Method method : TwinRuns.class.getDeclaredMethods()) {
            if (Modifier.isPrivate(method.getModifiers())) {
                hidden.add(method.getName());
                continue;
            }
            due(method + "", Modifier.toString(method.getModifiers()) + " " + method.getReturnType(), "public int");
            names.add(method.getName() + "(" + method.getParameterCount() + ")");
        }
        due("the face", String.join(" ", names), FACE);
        for (String name : hidden) {
            due("a private method of the face: " + name, (" " + FACE).contains(" " + name + "("), false);
        }
        Set<String> constants = new TreeSet<>();
        for (Field field : TwinRuns.class.getDeclaredFields()) {
            if (!Modifier.isPrivate(field.getModifiers())) {
                constants.add(field.getName());
                due(field + "", Modifier.toString(field.getModifiers()), "public static final");
            }
        }
        due("constants", String.join(" ", constants), "FULL NO NONE OUTSIDE STATE UNKNOWN");
        lookAtSizes(TwinRuns.class);
        lookInside();
    }

    private static void lookInside() {
        Class<?>[] inside = TwinRuns.class.getDeclaredClasses();
        due("twelve classes at most", inside.length <= 11, true);
        for (Class<?> one : inside) {
            due(one + " is static", Modifier.isStatic(one.getModifiers()), true);
            due(one + " is not public", Modifier.isPublic(one.getModifiers()), false);
            lookAtSizes(one);
            for (Field field : one.getDeclaredFields()) {
                boolean fixed = !Modifier.isStatic(field.getModifiers()) || Modifier.isFinal(field.getModifiers());
                due(field + " is no static state", fixed, true);
            }
        }
    }

    /** Rule 11: parameters and fields. */
    private static void lookAtSizes(Class<?> one) {
        for (Method method : one.getDeclaredMethods()) {
            due(method + " takes seven at most", method.getParameterCount() <= 7, true);
        }
        int fields = 0;
        for (Field field : one.getDeclaredFields()) {
            fields += Modifier.isStatic(field.getModifiers()) ? 0 : 1;
        }
        due(one + " has twenty fields at most", fields <= 20, true);
    }

    /** Rule 11: a method ends where its own indentation comes back. */
    private static void lookAtLengths(String text) {
        Matcher method = Pattern.compile("(?ms)^( {4}| {8})(?! )[^\\n;=]*\\) \\{\\n(.*?)^\\1\\}$").matcher(text);
        int methods = 0;
        while (method.find()) {
            methods++;
            String head = method.group().lines().findFirst().orElse("").strip();
            due(head + " stays short", method.group().lines().count() <= 60, true);
        }
        due("methods were found", methods > 80, true);
    }

    private static void lookAtText(String text) {
        String bare = text.replaceAll("(?s)/\\*.*?\\*/", "").replaceAll("//[^\\n]*", "");
        for (String out : RULED_OUT) {
            Matcher found = Pattern.compile(out, Pattern.MULTILINE).matcher(bare);
            if (found.find()) {
                due("ruled out", found.group(), "nothing");
            }
        }
        due("public classes", bare.split("\\bpublic [a-z ]*class\\b", -1).length - 1, 1);
    }

    public static void main(String[] args) throws IOException {
        lookAtMembers();
        String text = Files.readString(Path.of("src/main/java/TwinRuns.java"));
        lookAtText(text);
        lookAtLengths(text);
        System.out.println("FaceTest: " + wrong + " wrong");
        if (wrong != 0) {
            System.exit(1);
        }
    }
}
