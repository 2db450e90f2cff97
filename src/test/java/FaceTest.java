import java.io.IOException;
import java.lang.reflect.Constructor;
import java.lang.reflect.Field;
import java.lang.reflect.Method;
import java.lang.reflect.Modifier;
import java.nio.file.Files;
import java.nio.file.Path;
import java.util.Arrays;
import java.util.Set;
import java.util.TreeSet;
import java.util.regex.Pattern;

/** The public face, and those rules of the language that can be seen from the text. */
public final class FaceTest {
    private static final Path SOURCE = Path.of("src/main/java/IndependenceDesk.java");
    private static final Set<String> METHODS = Set.of(
            "boolean fresh(int)", "int weight(int,int)", "int row(int,int,int)", "boolean tear(int)",
            "int write(int,int,long)", "long read(int,int)", "int copy(int,int,int,int,int)",
            "int rule(int,int)", "int less(int,int)", "int take(int,int)", "int turn(int)",
            "int join(int,int)", "int broken(int)", "int look(int,int)", "int allows(int,int)",
            "int rank(int,int)", "int span(int,int)", "int ring(int,int)", "int exchange(int,int,int)",
            "int full(int,boolean)", "int both(int,int)", "int split(int,int)", "int most(int,int,int)",
            "int three(int,int,int)", "int fewest(int)", "int dealt(int,int)", "int crowd(int)",
            "int pack(int)", "int same(int,int)", "int count(int)");
    private static final String[] FORBIDDEN = {"throw", "throws", "try", "catch", "finally",
        "synchronized", "assert", "import", "package", "protected", "random", "System\\.(?!arraycopy)",
        "->", "::", "@\\w", "\\w+Exact", "hashCode", "toString", "equals", "static \\{"};

    public static void main(String[] args) throws IOException {
        members();
        text(Files.readString(SOURCE));
        Due.done();
    }

    private static void members() {
        Class<?> face = IndependenceDesk.class;
        Due.is("public and final", face.getModifiers(), Modifier.PUBLIC | Modifier.FINAL);
        Due.is("NONE", IndependenceDesk.NONE, -1);
        Set<String> found = new TreeSet<>();
        for (Method method : face.getDeclaredMethods()) {
            if (!Modifier.isPrivate(method.getModifiers())) {
                Due.is(method.getName() + " is public", method.getModifiers(), Modifier.PUBLIC);
                found.add(signature(method));
            }
        }
        Due.is("methods " + found, found.equals(METHODS), true);
        for (Field field : face.getDeclaredFields()) {
            boolean isPrivate = Modifier.isPrivate(field.getModifiers());
            Due.is("field " + field.getName(), isPrivate, !field.getName().equals("NONE"));
        }
        Constructor<?>[] constructors = face.getDeclaredConstructors();
        Due.is("constructors", constructors.length, 1);
        Due.is("its parameters", constructors[0].getParameterCount(), 0);
        Due.is("it is public", constructors[0].getModifiers(), Modifier.PUBLIC);
        Class<?>[] inside = face.getDeclaredClasses();
        Due.is("at most twelve classes", inside.length < 12, true);
        for (Class<?> one : inside) {
            Due.is(one.getName() + " is static", Modifier.isStatic(one.getModifiers()), true);
            ownMethods(one);
        }
        ownMethods(face);
    }

    private static String signature(Method method) {
        String types = String.join(",", Arrays.stream(method.getParameterTypes()).map(Class::getName).toList());
        return method.getReturnType().getName() + " " + method.getName() + "(" + types + ")";
    }

    private static void ownMethods(Class<?> one) {
        for (Method method : one.getDeclaredMethods()) {
            Due.is(method.getName() + " has at most seven parameters", method.getParameterCount() <= 7, true);
            boolean isFace = one == IndependenceDesk.class && Modifier.isPublic(method.getModifiers());
            boolean bearsName = METHODS.stream().anyMatch(m -> m.contains(" " + method.getName() + "("));
            Due.is(method.getName() + " has a name of its own", bearsName, isFace);
        }
    }

    private static void text(String source) {
        String code = source.replaceAll("(?s)/\\*.*?\\*/", "").replaceAll("//[^\n]*", "");
        for (String word : FORBIDDEN) {
            String edge = Character.isLetter(word.charAt(0)) ? "\\b" : "";
            Due.is("no " + word, Pattern.compile(edge + word + (edge.isEmpty() || word.contains("\\") ? "" : "\\b"))
                    .matcher(code).find(), false);
        }
        int since = 0;
        for (String line : code.split("\n")) {
            boolean starts = line.matches(" {4}( {4})?[a-z].*\\) \\{");
            since = starts ? 0 : since + 1;
            boolean ends = line.matches(" {4}( {4})?\\}");
            Due.is("a method of at most sixty lines, at " + line, ends && since > 60, false);
        }
    }
}
