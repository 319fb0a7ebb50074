import java.io.IOException;
import java.lang.reflect.Constructor;
import java.lang.reflect.Field;
import java.lang.reflect.Method;
import java.lang.reflect.Modifier;
import java.nio.file.Files;
import java.nio.file.Path;
import java.util.Arrays;
import java.util.Set;
import java.util.TreeSet;
import java.util.regex.Matcher;
import java.util.regex.Pattern;

/** The public face as the document tells it, and some rules of LANGUAGE.md that can be seen in the text. */
public final class FaceTest {
    private static final Check CHECK = new Check();

    public static void main(String[] args) throws IOException {
        constants();
        face();
        innerClasses();
        words();
        CHECK.finish();
    }

    private static void constants() {
        CHECK.same("NONE", DialPlan.NONE, -1);
        CHECK.same("UNKNOWN", DialPlan.UNKNOWN, -1001);
        CHECK.same("OUTSIDE", DialPlan.OUTSIDE, -1002);
        CHECK.same("STATE", DialPlan.STATE, -1003);
        CHECK.same("FULL", DialPlan.FULL, -1004);
    }

    private static void face() {
        CHECK.holds("public and final", Modifier.isPublic(DialPlan.class.getModifiers()) && Modifier.isFinal(DialPlan.class.getModifiers()));
        Set<String> due = new TreeSet<>(Arrays.asList("int letter(int)", "int blank()", "int fault()", "int add()", "int drop(int)",
            "int pattern(int, int)", "int lets(int, int)", "int narrower(int, int)", "int clash(int)", "int row(int)",
            "int stage(int, int)", "int lift()", "int hang()", "int press(int)", "int pass(int)", "int end()", "int line(int)",
            "int count(int)", "long digest()", "NONE", "UNKNOWN", "OUTSIDE", "STATE", "FULL", "DialPlan()"));
        Set<String> seen = new TreeSet<>();
        for (Method method : DialPlan.class.getDeclaredMethods()) {
            if (!Modifier.isPrivate(method.getModifiers())) {
                seen.add(method.getReturnType() + " " + method.getName() + parameters(method.getParameterTypes()));
            }
        }
        for (Field field : DialPlan.class.getDeclaredFields()) {
            if (!Modifier.isPrivate(field.getModifiers())) {
                seen.add(field.getName());
            }
        }
        for (Constructor<?> constructor : DialPlan.class.getDeclaredConstructors()) {
            seen.add("DialPlan" + parameters(constructor.getParameterTypes()));
        }
        CHECK.holds("the face is as told, not " + seen, seen.equals(due));
    }

    private static String parameters(Class<?>[] types) {
        return Arrays.toString(types).replace('[', '(').replace(']', ')');
    }

    private static void innerClasses() {
        Set<String> names = new TreeSet<>();
        for (Method method : DialPlan.class.getDeclaredMethods()) {
            if (Modifier.isPublic(method.getModifiers())) {
                names.add(method.getName());
            }
        }
        for (Class<?> inner : DialPlan.class.getDeclaredClasses()) {
            CHECK.holds(inner + " is static", Modifier.isStatic(inner.getModifiers()));
            for (Method method : inner.getDeclaredMethods()) {
                CHECK.holds(method + " has a name of its own", !names.contains(method.getName()));
            }
            for (Field field : inner.getDeclaredFields()) {
                CHECK.holds(field + " is final if static",
                    !Modifier.isStatic(field.getModifiers()) || Modifier.isFinal(field.getModifiers()));
            }
        }
        CHECK.holds("at most twelve classes", DialPlan.class.getDeclaredClasses().length <= 11);
    }

    private static void words() throws IOException {
        String source = Files.readString(Path.of("src/main/java/DialPlan.java"));
        String code = source.replaceAll("(?s)/\\*.*?\\*/", "").replaceAll("//[^\n]*", "");
        String[] banned = {"throw", "try", "catch", "synchronized", "assert", "import", "package", "System", "Exception", "->", "::"};
        for (String word : banned) {
            boolean isName = Character.isLetter(word.charAt(0));
            Matcher matcher = Pattern.compile(isName ? "\\b" + word + "\\b" : word).matcher(code);
            CHECK.holds("no " + word + " in the program", !matcher.find());
        }
    }
}
