import java.lang.reflect.Constructor;
import java.lang.reflect.Field;
import java.lang.reflect.Method;
import java.lang.reflect.Modifier;
import java.nio.file.Files;
import java.nio.file.Path;
import java.util.ArrayList;
import java.util.List;
import java.util.TreeSet;

/** The public face of the document, and the words that LANGUAGE.md rules out. */
public final class FaceTest {
    private static final Check CHECK = new Check("FaceTest");
    private static final String[] FACE = {
        "boolean salt(int,int)", "boolean ripens(int,int)", "int net(int,int,int,int)",
        "int weeks(int)", "int pull(int)", "int flood(int)", "int find(int,int)",
        "int found(int,int)", "int netOf(int,int)", "int order(int,int,int,int)",
        "boolean change(int)", "int late()", "int spun(int,int)", "int clear()",
        "int roll(int,int)", "int cut(int,int)", "int opened()", "int from(int)", "int away()",
        "int reading(int,int)", "int errs(boolean)", "int back(int,boolean)", "int about(int)"};

    public static void main(String[] args) throws Exception {
        theFaceIsTheDocuments();
        noPrivateMethodBearsAPublicName();
        noWordThatIsRuledOut();
        CHECK.end();
    }

    private static void theFaceIsTheDocuments() {
        TreeSet<String> due = new TreeSet<>(List.of(FACE));
        TreeSet<String> got = new TreeSet<>();
        for (Method method : HuskYard.class.getDeclaredMethods()) {
            if (!Modifier.isPrivate(method.getModifiers())) {
                got.add(told(method));
            }
        }
        CHECK.due("the face " + got, got.equals(due), true);
        for (Field field : HuskYard.class.getDeclaredFields()) {
            boolean isPrivate = Modifier.isPrivate(field.getModifiers());
            CHECK.due("field " + field, isPrivate || field.getName().equals("NONE"), true);
        }
        Constructor<?>[] constructors = HuskYard.class.getDeclaredConstructors();
        CHECK.due("constructors", constructors.length, 1);
        CHECK.due("its modifiers", constructors[0].getModifiers(), Modifier.PUBLIC);
        CHECK.due("modifiers", HuskYard.class.getModifiers(), Modifier.PUBLIC | Modifier.FINAL);
    }

    private static String told(Method method) {
        List<String> types = new ArrayList<>();
        for (Class<?> type : method.getParameterTypes()) {
            types.add(type.getName());
        }
        return method.getReturnType() + " " + method.getName() + "(" + String.join(",", types) + ")";
    }

    private static void noPrivateMethodBearsAPublicName() {
        TreeSet<String> names = new TreeSet<>();
        for (String line : FACE) {
            names.add(line.substring(line.indexOf(' ') + 1, line.indexOf('(')));
        }
        List<Class<?>> classes = new ArrayList<>(List.of(HuskYard.class.getDeclaredClasses()));
        for (Class<?> inside : classes) {
            CHECK.due(inside + " is static", Modifier.isStatic(inside.getModifiers()), true);
            for (Method method : inside.getDeclaredMethods()) {
                CHECK.due("method " + method, names.contains(method.getName()), false);
            }
        }
        for (Method method : HuskYard.class.getDeclaredMethods()) {
            if (Modifier.isPrivate(method.getModifiers())) {
                CHECK.due("method " + method, names.contains(method.getName()), false);
            }
        }
    }

    private static void noWordThatIsRuledOut() throws Exception {
        String source = Files.readString(Path.of("src/main/java/HuskYard.java"));
        String code = source.replaceAll("(?s)/\\*.*?\\*/", " ").replaceAll("//[^\n]*", " ");
        TreeSet<String> words = new TreeSet<>(List.of(code.split("[^A-Za-z0-9_]+")));
        for (String word : new String[] {"throw", "throws", "try", "catch", "finally",
            "synchronized", "assert", "import", "package", "protected"}) {
            CHECK.due("the word " + word, words.contains(word), false);
        }
        CHECK.due("a lambda", code.contains("->"), false);
        CHECK.due("a method reference", code.contains("::"), false);
    }
}
