import java.io.IOException;
import java.lang.reflect.Constructor;
import java.lang.reflect.Field;
import java.lang.reflect.Method;
import java.lang.reflect.Modifier;
import java.nio.file.Files;
import java.nio.file.Path;
import java.util.ArrayList;
import java.util.List;
import java.util.TreeSet;
import java.util.regex.Matcher;
import java.util.regex.Pattern;

/** The public face of the document, and the rules of LANGUAGE.md that can be counted or searched for. */
public final class FaceTest {
    private static final Check CHECK = new Check("FaceTest");
    private static final String[] FACE = {
        "boolean salt(int,int)", "boolean ripens(int,int)", "int net(int,int,int,int)",
        "int weeks(int)", "int pull(int)", "int flood(int)", "int find(int,int)",
        "int found(int,int)", "int netOf(int,int)", "int order(int,int,int,int)",
        "boolean change(int)", "int late()", "int spun(int,int)", "int clear()",
        "int roll(int,int)", "int cut(int,int)", "int opened()", "int from(int)", "int away()",
        "int reading(int,int)", "int errs(boolean)", "int back(int,boolean)", "int about(int)"};
    private static final List<Class<?>> CONSTANTS = List.of(int.class, long.class, boolean.class,
            char.class, String.class, int[].class, long[].class, char[].class, byte[].class);

    public static void main(String[] args) throws Exception {
        theFaceIsTheDocuments();
        noPrivateMethodBearsAPublicName();
        noWordThatIsRuledOut();
        onlyTheLibraryThatIsListed();
        staticFieldsAreConstants();
        classesAndMethodsAreSmall();
        objectsAreMadeWithTheYardAlone();
        CHECK.end();
    }

    private static String code() throws IOException {
        String source = Files.readString(Path.of("src/main/java/HuskYard.java"));
        return source.replaceAll("(?s)/\\*.*?\\*/", " ").replaceAll("//[^\n]*", " ");
    }

    private static List<Class<?>> classes() {
        List<Class<?>> classes = new ArrayList<>(List.of(HuskYard.class.getDeclaredClasses()));
        classes.add(HuskYard.class);
        return classes;
    }

    private static void theFaceIsTheDocuments() {
        TreeSet<String> due = new TreeSet<>(List.of(FACE));
        TreeSet<String> got = new TreeSet<>();
        for (Method method : HuskYard.class.getDeclaredMethods()) {
            if (!Modifier.isPrivate(method.getModifiers())) {
                got.add(told(method));
            }
        }
        CHECK.due("the face " + got, got.equals(due), true);
        for (Field field : HuskYard.class.getDeclaredFields()) {
            boolean isPrivate = Modifier.isPrivate(field.getModifiers());
            CHECK.due("field " + field, isPrivate || field.getName().equals("NONE"), true);
        }
        Constructor<?>[] constructors = HuskYard.class.getDeclaredConstructors();
        CHECK.due("constructors", constructors.length, 1);
        CHECK.due("its modifiers", constructors[0].getModifiers(), Modifier.PUBLIC);
        CHECK.due("modifiers", HuskYard.class.getModifiers(), Modifier.PUBLIC | Modifier.FINAL);
    }

    private static String told(Method method) {
        List<String> types = new ArrayList<>();
        for (Class<?> type : method.getParameterTypes()) {
            types.add(type.getName());
        }
        return method.getReturnType() + " " + method.getName() + "(" + String.join(",", types) + ")";
    }

    private static void noPrivateMethodBearsAPublicName() {
        TreeSet<String> names = new TreeSet<>();
        for (String line : FACE) {
            names.add(line.substring(line.indexOf(' ') + 1, line.indexOf('(')));
        }
        for (Class<?> inside : HuskYard.class.getDeclaredClasses()) {
            CHECK.due(inside + " is static", Modifier.isStatic(inside.getModifiers()), true);
            for (Method method : inside.getDeclaredMethods()) {
                CHECK.due("method " + method, names.contains(method.getName()), false);
            }
        }
        for (Method method : HuskYard.class.getDeclaredMethods()) {
            if (Modifier.isPrivate(method.getModifiers())) {
                CHECK.due("method " + method, names.contains(method.getName()), false);
            }
        }
    }

    private static void noWordThatIsRuledOut() throws IOException {
        String code = code();
        TreeSet<String> words = new TreeSet<>(List.of(code.split("[^A-Za-z0-9_]+")));
        for (String word : new String[] {"throw", "throws", "try", "catch", "finally",
            "synchronized", "assert", "import", "package", "protected"}) {
            CHECK.due("the word " + word, words.contains(word), false);
        }
        CHECK.due("a lambda", code.contains("->"), false);
        CHECK.due("a method reference", code.contains("::"), false);
    }

    /** Rule 4: the static functions over int and long, none whose name ends in Exact. */
    private static void onlyTheLibraryThatIsListed() throws IOException {
        Matcher use = Pattern.compile("\\b([A-Z][a-z]\\w*)\\.(\\w+)").matcher(code());
        TreeSet<String> own = new TreeSet<>();
        for (Class<?> one : classes()) {
            own.add(one.getSimpleName());
        }
        while (use.find()) {
            boolean listed = List.of("Integer", "Long", "Math").contains(use.group(1))
                    && !use.group(2).endsWith("Exact");
            CHECK.due("the use of " + use.group(), listed || own.contains(use.group(1)), true);
        }
    }

    /** Rule 5: no static state. */
    private static void staticFieldsAreConstants() {
        for (Class<?> one : classes()) {
            for (Field field : one.getDeclaredFields()) {
                boolean isStatic = Modifier.isStatic(field.getModifiers());
                boolean isConstant = Modifier.isFinal(field.getModifiers())
                        && CONSTANTS.contains(field.getType());
                CHECK.due("static " + field, !isStatic || isConstant, true);
            }
        }
    }

    /** Rule 11: twelve classes, twenty fields beside the constants, seven parameters. */
    private static void classesAndMethodsAreSmall() {
        CHECK.due("at most twelve classes", classes().size() <= 12, true);
        for (Class<?> one : classes()) {
            int fields = 0;
            for (Field field : one.getDeclaredFields()) {
                fields += Modifier.isStatic(field.getModifiers()) ? 0 : 1;
            }
            CHECK.due(one + " has at most twenty fields", fields <= 20, true);
            for (Method method : one.getDeclaredMethods()) {
                CHECK.due(method + " takes at most seven", method.getParameterCount() <= 7, true);
            }
        }
    }

    /** Rule 12: all calls of a run share one room, so rows are made once and used again. */
    private static void objectsAreMadeWithTheYardAlone() throws IOException {
        for (String line : code().split("\n")) {
            boolean aRow = line.matches(" {8}private final int\\[\\] \\w+ = new int\\[[^\\]]+\\];");
            boolean aPart = line.matches(" {8}\\w+ = new [A-Z]\\w+\\(\\);");
            boolean makes = line.matches(".*\\b(new|clone|copyOf|copyOfRange)\\b.*");
            CHECK.due("what is made in: " + line.trim(), !makes || aRow || aPart, true);
        }
    }
}
