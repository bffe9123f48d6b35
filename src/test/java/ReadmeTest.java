import java.io.IOException;
import java.lang.reflect.Method;
import java.lang.reflect.Modifier;
import java.nio.file.DirectoryStream;
import java.nio.file.Files;
import java.nio.file.Path;
import java.util.ArrayList;
import java.util.List;
import java.util.TreeSet;
import java.util.regex.Matcher;
import java.util.regex.Pattern;

/** What README.md tells of the class and of its tests is so. */
public final class ReadmeTest {
    private static final Check CHECK = new Check("ReadmeTest");
    private static final Pattern CALL =
            Pattern.compile("yard\\.(\\w+)\\((.*)\\); +// (-?\\d+|true|false): .+");

    public static void main(String[] args) throws Exception {
        String readme = Files.readString(Path.of("README.md"));
        theExampleAnswersSo(readme);
        everyMethodHasARow(readme);
        everyTestHasARow(readme);
        CHECK.end();
    }

    private static List<String> exampleLines(String readme) {
        List<String> lines = new ArrayList<>();
        boolean inside = false;
        for (String line : readme.split("\n")) {
            if (line.startsWith("```")) {
                inside = line.equals("```java");
            } else if (inside && !line.isBlank() && !line.startsWith("//")) {
                lines.add(line);
            }
        }
        return lines;
    }

    private static void theExampleAnswersSo(String readme) throws ReflectiveOperationException {
        List<String> lines = exampleLines(readme);
        CHECK.due("the example begins with a new yard",
                !lines.isEmpty() && lines.remove(0).equals("HuskYard yard = new HuskYard();"), true);
        HuskYard yard = new HuskYard();
        TreeSet<String> used = new TreeSet<>();
        for (String line : lines) {
            Matcher call = CALL.matcher(line);
            CHECK.due("a call with its answer: " + line, call.matches(), true);
            if (call.matches()) {
                used.add(call.group(1));
                answersSo(yard, line, call);
            }
        }
        CHECK.due("every method is used, of these: " + used, used.equals(faceNames()), true);
    }

    private static void answersSo(HuskYard yard, String line, Matcher call)
            throws ReflectiveOperationException {
        Method method = methodOf(call.group(1));
        CHECK.due("a method of the face: " + line, method != null, true);
        if (method != null) {
            Object got = method.invoke(yard, arguments(call.group(2)));
            CHECK.due(line + " got " + got, got.toString().equals(call.group(3)), true);
        }
    }

    private static Object[] arguments(String list) {
        List<Object> arguments = new ArrayList<>();
        for (String word : list.isEmpty() ? new String[0] : list.split(", ")) {
            boolean isTruth = word.equals("true") || word.equals("false");
            if (isTruth) {
                arguments.add(Boolean.valueOf(word));
            } else {
                arguments.add(Integer.valueOf(word));
            }
        }
        return arguments.toArray();
    }

    private static Method methodOf(String name) {
        for (Method method : HuskYard.class.getDeclaredMethods()) {
            if (Modifier.isPublic(method.getModifiers()) && method.getName().equals(name)) {
                return method;
            }
        }
        return null;
    }

    private static TreeSet<String> faceNames() {
        TreeSet<String> names = new TreeSet<>();
        for (Method method : HuskYard.class.getDeclaredMethods()) {
            if (Modifier.isPublic(method.getModifiers())) {
                names.add(method.getName());
            }
        }
        return names;
    }

    private static void everyMethodHasARow(String readme) {
        for (String name : faceNames()) {
            CHECK.due("a row for " + name, readme.contains("\n| `" + name + "("), true);
        }
    }

    private static void everyTestHasARow(String readme) throws IOException {
        try (DirectoryStream<Path> tests = Files.newDirectoryStream(Path.of("src/test/java"), "*Test.java")) {
            for (Path test : tests) {
                String name = test.getFileName().toString().replace(".java", "");
                CHECK.due("a row for " + name, readme.contains("\n| `" + name + "` |"), true);
            }
        }
    }
}
