import java.io.IOException;
import java.lang.reflect.Method;
import java.lang.reflect.Modifier;
import java.nio.file.Files;
import java.nio.file.Path;
import java.util.List;
import java.util.stream.Collectors;
import java.util.stream.Stream;

/** README.md: its example gives what it says, and it names every call and every test. */
public final class ReadmeTest {
    private static int wrong = 0;

    private static void due(String what, Object got, Object want) {
        if (!got.equals(want)) {
            wrong++;
            System.out.println(what + " is " + got + ", due is " + want);
        }
    }

    /** The example, line by line as it stands there but for what is due. */
    private static void runExample() {
        TwinRuns x = new TwinRuns();
        x.line(0, 5, 3, 2, 0);
        x.line(0, 6, 0, 0, 0);
        x.line(0, 6, 1, 0, 0);
        for (char sign : "a=a&b=b:o".toCharArray()) {
            x.say(sign);
        }
        int saying = x.saying();
        due("saying", saying, 0);
        int broken = x.holds(saying, 0, 0, 0);
        due("broken", broken, 1536);
        int first = x.holds(saying, 0, 0, 1);
        due("first", first, 1);
        int parts = x.part(0, 0, 0, 1);
        due("parts", parts, 1);
        int lines = x.so(saying, 0, 0);
        due("lines", lines, 2);
        x.silent(0, lines);
        int left = x.holds(saying, 0, 0, 0);
        due("left", left, 0);
    }

    private static List<String> codeOf(String text) {
        return text.lines().map(line -> line.replaceAll("//.*", "").strip()).filter(line -> !line.isEmpty())
            .collect(Collectors.toList());
    }

    /** Each line of README's example stands in runExample above, in its order. */
    private static void lookAtExample(String readme, String here) {
        String example = readme.substring(readme.indexOf("```java") + 7);
        List<String> told = codeOf(example.substring(0, example.indexOf("```")));
        String body = here.substring(here.indexOf("void runExample() {"));
        List<String> run = codeOf(body.substring(0, body.indexOf("\n    }\n")));
        List<String> same = run.stream().skip(1).filter(line -> !line.startsWith("due(")).collect(Collectors.toList());
        due("the example", told, same);
    }

    private static void lookForCalls(String readme) {
        for (Method method : TwinRuns.class.getDeclaredMethods()) {
            if (Modifier.isPublic(method.getModifiers())) {
                due("README names " + method.getName(), readme.contains("`" + method.getName() + "("), true);
            }
        }
    }

    private static void lookForTests(String readme) throws IOException {
        try (Stream<Path> files = Files.list(Path.of("src/test/java"))) {
            for (Path file : files.collect(Collectors.toList())) {
                String name = file.getFileName().toString().replace(".java", "");
                due("README names " + name, readme.contains("`" + name + "`"), true);
            }
        }
    }

    public static void main(String[] args) throws IOException {
        String readme = Files.readString(Path.of("README.md"));
        runExample();
        lookAtExample(readme, Files.readString(Path.of("src/test/java/ReadmeTest.java")));
        lookForCalls(readme);
        lookForTests(readme);
        System.out.println("ReadmeTest: " + wrong + " wrong");
        if (wrong != 0) {
            System.exit(1);
        }
    }
}
