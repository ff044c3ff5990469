import java.lang.reflect.Constructor;
import java.lang.reflect.Field;
import java.lang.reflect.Method;
import java.lang.reflect.Modifier;
import java.nio.file.Files;
import java.nio.file.Path;
import java.util.Arrays;
import java.util.List;
import java.util.Set;
import java.util.TreeSet;
import java.util.regex.Matcher;
import java.util.regex.Pattern;

/** The public face of the document, and those rules of LANGUAGE.md that can be read off the file's words. */
public final class FaceTest {
    private static final Set<String> METHODS = new TreeSet<>(Arrays.asList(
        "int things(int)", "int order(long,long)", "int at(int)", "int swap(int,int)", "int lay(int)",
        "int take(int)", "int then(int)", "int back()", "int number(int)", "long many(int,int)",
        "long mean(int,int)", "int row(int,int,long)", "long place(int)", "int toRounds()", "int toRecords()",
        "int opens(int)", "int list(int,int)", "int forget(int)", "int wins(int,int)", "long allWin(int)",
        "int count(int)"));
    private static final List<String> NO_WORDS = List.of("throw", "throws", "try", "catch", "synchronized",
        "assert", "import", "package", "static \\{", "->", "::", "Exact\\(", "protected", "System", "Random", "Thread");

    private FaceTest() {
    }

    public static void main(String[] args) throws Exception {
        Class<?> face = HundredBoxes.class;
        Check.due("the class is public and final", face.getModifiers() & (Modifier.PUBLIC | Modifier.FINAL), Modifier.PUBLIC | Modifier.FINAL);
        constants();
        constructors(face);
        methods(face);
        fields(face);
        nested(face);
        String source = Files.readString(Path.of(args[0]));
        words(source);
        texts(source);
        lengths(source);
        Check.end("FaceTest");
    }

    private static void constants() {
        Check.due("NONE", HundredBoxes.NONE, -1);
        Check.due("BAD", HundredBoxes.BAD, -2);
        Check.due("NOT", HundredBoxes.NOT, -3);
        Check.due("TWICE", HundredBoxes.TWICE, -4);
    }

    private static void constructors(Class<?> face) {
        Constructor<?>[] made = face.getDeclaredConstructors();
        Check.due("constructors", made.length, 1);
        Check.due("its parameters", made[0].getParameterCount(), 0);
        Check.due("it is public", made[0].getModifiers(), Modifier.PUBLIC);
    }

    private static void methods(Class<?> face) {
        Set<String> found = new TreeSet<>();
        Set<String> names = new TreeSet<>();
        for (Method method : face.getDeclaredMethods()) {
            if (Modifier.isPublic(method.getModifiers())) {
                StringBuilder types = new StringBuilder();
                for (Class<?> type : method.getParameterTypes()) {
                    types.append(types.length() == 0 ? "" : ",").append(type.getName());
                }
                found.add(method.getReturnType() + " " + method.getName() + "(" + types + ")");
                names.add(method.getName());
            }
        }
        Check.due("the public methods " + found, found.equals(METHODS) ? 1 : 0, 1);
        for (Method method : face.getDeclaredMethods()) {
            if (!Modifier.isPublic(method.getModifiers())) {
                Check.due(method + " is private", Modifier.isPrivate(method.getModifiers()) ? 1 : 0, 1);
                Check.due(method + " has a name of its own", names.contains(method.getName()) ? 1 : 0, 0);
            }
        }
    }

    private static void fields(Class<?> face) {
        Set<String> shown = new TreeSet<>();
        for (Field field : face.getDeclaredFields()) {
            if (!Modifier.isPrivate(field.getModifiers())) {
                shown.add(field.getName());
            }
            if (Modifier.isStatic(field.getModifiers())) {
                Check.due(field + " is final", Modifier.isFinal(field.getModifiers()) ? 1 : 0, 1);
            }
        }
        Check.due("the constants " + shown, shown.equals(Set.of("NONE", "BAD", "NOT", "TWICE")) ? 1 : 0, 1);
    }

    private static void nested(Class<?> face) {
        Class<?>[] inside = face.getDeclaredClasses();
        Check.due("twelve classes at most", inside.length < 12 ? 1 : 0, 1);
        for (Class<?> one : inside) {
            Check.due(one + " is static", Modifier.isStatic(one.getModifiers()) ? 1 : 0, 1);
            Check.due(one + " is not shown", one.getModifiers() & (Modifier.PUBLIC | Modifier.PROTECTED), 0);
            Check.due(one + " has few fields", one.getDeclaredFields().length <= 20 ? 1 : 0, 1);
            parameters(one);
        }
        parameters(face);
    }

    private static void parameters(Class<?> one) {
        for (Method method : one.getDeclaredMethods()) {
            Check.due(method + " takes seven at most", method.getParameterCount() <= 7 ? 1 : 0, 1);
        }
        for (Constructor<?> made : one.getDeclaredConstructors()) {
            Check.due(made + " takes seven at most", made.getParameterCount() <= 7 ? 1 : 0, 1);
        }
    }

    private static void words(String source) {
        String code = source.replaceAll("(?s)/\\*.*?\\*/", "").replaceAll("//[^\n]*", "");
        for (String word : NO_WORDS) {
            boolean plain = word.matches("[A-Za-z]+");
            Matcher matcher = Pattern.compile(plain ? "\\b" + word + "\\b" : word).matcher(code);
            Check.due("'" + word + "' is in the file", matcher.find() ? 1 : 0, 0);
        }
    }

    private static void texts(String source) {
        Check.due("characters 0 to 255 alone", source.chars().allMatch(c -> c <= 255) ? 1 : 0, 1);
    }

    /** A method's head and its end stand alike far in: only their bodies stand further in. */
    private static void lengths(String source) {
        Pattern method = Pattern.compile("(?m)^( +)[\\w\\[\\] ]+\\([^;]*\\) \\{\\R(?:\\1 .*\\R|\\R)*\\1\\}");
        Matcher matcher = method.matcher(source);
        int found = 0;
        while (matcher.find()) {
            found++;
            String text = matcher.group();
            Check.due("sixty lines at most: " + text.lines().findFirst().get(), text.lines().count() <= 60 ? 1 : 0, 1);
        }
        Check.due("more methods were found than the face has", found > METHODS.size() ? 1 : 0, 1);
    }
}
