import java.io.IOException;
import java.lang.reflect.Constructor;
import java.lang.reflect.Field;
import java.lang.reflect.Method;
import java.lang.reflect.Modifier;
import java.nio.file.Files;
import java.nio.file.Path;
import java.util.Set;
import java.util.TreeSet;

/** The public face is the document's and no more, and the source keeps out of what ../shared/LANGUAGE.md forbids. */
public final class FaceTest {
    private static final Set<String> METHODS = Set.of(
        "int node(int,int,int)", "int hold(int,int)", "int bar(int,int,int)", "int lift(int)",
        "int strengthen(int,int)", "int load(int,int,int,int)", "int ofNode(int,int)", "int ofBar(int,int)",
        "int count(int)", "int mechanism(int)", "long twist(int,int,int)", "long bound(int,int,int)",
        "int limits(int)", "long factor(int,int,int)", "int near(int,int)", "int bears(int,int,int)",
        "long moment(int,int,int,int)", "int yields(int,int)", "int binding(int,int,int)", "int spare(int,int)",
        "int weakest(int)", "int image(int)", "int restore(int)");
    private static final Set<String> FIELDS = Set.of("UNKNOWN", "OUTSIDE", "STATE", "FULL", "NO", "NONE", "GONE");
    private static final String[] FORBIDDEN = {
        "->", "::", "catch", "throw", "finally", "synchronized", "assert", "record", "protected", "volatile",
        "Float.", "Double.", "String", "Exact(", "@", "import java.util.List", "static {"};

    public static void main(String[] args) throws IOException {
        checkMembers();
        checkInnerClasses();
        checkSource();
        Check.end("FaceTest");
    }

    private static void checkMembers() {
        Class<?> face = FrameCollapse.class;
        Set<String> open = new TreeSet<>();
        for (Method method : face.getDeclaredMethods()) {
            if (!Modifier.isPrivate(method.getModifiers()) && !method.isSynthetic()) {
                Check.due(method + " is public, of an object", method.getModifiers(), Modifier.PUBLIC);
                open.add(signature(method));
            }
        }
        Check.due("methods " + open, open.equals(METHODS) ? 1 : 0, 1);
        Set<String> constants = new TreeSet<>();
        for (Field field : face.getDeclaredFields()) {
            if (!Modifier.isPrivate(field.getModifiers()) && !field.isSynthetic()) {
                constants.add(field.getName());
                Check.due(field + " is a public constant", field.getModifiers(),
                    Modifier.PUBLIC | Modifier.STATIC | Modifier.FINAL);
                Check.due(field + " is an int, GONE a long", field.getType() == long.class ? 1 : 0,
                    field.getName().equals("GONE") ? 1 : 0);
            }
        }
        Check.due("constants " + constants, constants.equals(FIELDS) ? 1 : 0, 1);
        Constructor<?>[] constructors = face.getDeclaredConstructors();
        Check.due("constructors", constructors.length, 1);
        Check.due("public constructor", constructors[0].getModifiers(), Modifier.PUBLIC);
        Check.due("final class", face.getModifiers(), Modifier.PUBLIC | Modifier.FINAL);
    }

    private static String signature(Method method) {
        StringBuilder text = new StringBuilder();
        for (Class<?> type : method.getParameterTypes()) {
            text.append(text.length() == 0 ? "" : ",").append(type.getName());
        }
        return method.getReturnType().getName() + " " + method.getName() + "(" + text + ")";
    }

    private static void checkInnerClasses() {
        Set<String> names = new TreeSet<>();
        for (String method : METHODS) {
            names.add(method.substring(method.indexOf(' ') + 1, method.indexOf('(')));
        }
        for (Class<?> inner : FrameCollapse.class.getDeclaredClasses()) {
            Check.due(inner + " is private and static", inner.getModifiers() & (Modifier.PRIVATE | Modifier.STATIC),
                Modifier.PRIVATE | Modifier.STATIC);
            for (Method method : inner.getDeclaredMethods()) {
                Check.due(method + " bears a public name", names.contains(method.getName()) ? 1 : 0, 0);
                Check.due(method + " takes at most seven", method.getParameterCount() <= 7 ? 1 : 0, 1);
            }
            Check.due(inner + " has at most twenty fields", inner.getDeclaredFields().length <= 20 ? 1 : 0, 1);
        }
    }

    private static void checkSource() throws IOException {
        String source = Files.readString(Path.of("src/main/java/FrameCollapse.java"));
        String code = source.replaceAll("(?s)/\\*.*?\\*/", "").replaceAll("//[^\n]*", "");
        for (String word : FORBIDDEN) {
            Check.due("uses of " + word, code.contains(word) ? 1 : 0, 0);
        }
        Check.due("signs beyond 127", source.chars().allMatch(sign -> sign < 128) ? 0 : 1, 0);
    }
}
