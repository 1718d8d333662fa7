import java.io.IOException;
import java.lang.reflect.Constructor;
import java.lang.reflect.Field;
import java.lang.reflect.Method;
import java.lang.reflect.Modifier;
import java.nio.file.Files;
import java.nio.file.Path;
import java.util.ArrayList;
import java.util.Arrays;
import java.util.List;
import java.util.TreeMap;
import java.util.regex.Matcher;
import java.util.regex.Pattern;

/** The face that the document tells and some rules of LANGUAGE.md that can be seen from outside. */
public final class FormTest {
    private static final Path SOURCE = Path.of("src/main/java/ThreeLegs.java");
    private static final String[] CONSTANTS = {"UNKNOWN", "OUTSIDE", "STATE", "FULL", "NO", "NONE"};
    private static final String[] NAMES = {"run", "rest", "set", "pair", "reach", "who", "alone", "tied", "call",
        "quicken", "yields", "practice", "scarf", "even", "say", "wipe", "fault", "judge", "fits", "year", "image",
        "restore", "told"};
    private static final int[] ARGUMENTS = {4, 1, 2, 4, 4, 3, 2, 3, 4, 4, 4, 4, 4, 5, 1, 0, 0, 2, 1, 4, 1, 1, 1};
    private static final String[] NOT_LET = {"\\bcatch\\b", "\\btry\\b", "\\bfinally\\b", "\\bthrows?\\b",
        "\\bsynchronized\\b", "\\bassert\\b", "\\bpackage\\b", "->", "::", "\\bSystem\\.(?!arraycopy)", "\\bThread\\b",
        "\\bjava\\.", "\\bhashCode\\b", "Exact\\b", "\\bInteger\\.valueOf\\b", "\\bvar\\b", "\\bthis\\.\\w+\\("};
    /** What the class takes of the library: each stands in LANGUAGE.md's rule 4 by its name. */
    private static final List<String> OF_THE_LIBRARY = List.of("Integer.bitCount", "Math.abs", "Math.max", "Math.min",
        "System.arraycopy");

    private static int wrong = 0;

    private static void due(String what, boolean stands) {
        if (!stands) {
            wrong++;
            System.out.println("not so: " + what);
        }
    }

    public static void main(String[] args) throws IOException {
        theClass();
        theMembers();
        theClassesInside();
        theStaticFields();
        theText(Files.readString(SOURCE));
        System.out.println(wrong == 0 ? "the form is as due" : wrong + " things of the form are not as due");
        if (wrong != 0) {
            System.exit(1);
        }
    }

    private static void theClass() {
        due("public and final", ThreeLegs.class.getModifiers() == (Modifier.PUBLIC | Modifier.FINAL));
        Constructor<?>[] constructors = ThreeLegs.class.getDeclaredConstructors();
        due("one constructor, public, without arguments", constructors.length == 1
            && constructors[0].getParameterCount() == 0 && Modifier.isPublic(constructors[0].getModifiers()));
    }

    private static void theMembers() {
        TreeMap<String, Integer> face = new TreeMap<>();
        for (int i = 0; i < NAMES.length; i++) {
            face.put(NAMES[i], ARGUMENTS[i]);
        }
        TreeMap<String, Integer> found = new TreeMap<>();
        for (Method method : ThreeLegs.class.getDeclaredMethods()) {
            due(method.getName() + " is public or private",
                Modifier.isPublic(method.getModifiers()) || Modifier.isPrivate(method.getModifiers()));
            if (Modifier.isPublic(method.getModifiers())) {
                due(method.getName() + " is of int alone", isOfInt(method));
                due(method.getName() + " stands once", found.put(method.getName(), method.getParameterCount()) == null);
            } else {
                due(method.getName() + " bears no public name", !face.containsKey(method.getName()));
            }
        }
        due("the methods of the face: " + found, found.equals(face));
        List<String> constants = new ArrayList<>();
        for (Field field : ThreeLegs.class.getDeclaredFields()) {
            int modifiers = field.getModifiers();
            if (Modifier.isPublic(modifiers)) {
                due(field.getName() + " is a constant", Modifier.isStatic(modifiers) && Modifier.isFinal(modifiers)
                    && field.getType() == int.class);
                constants.add(field.getName());
            } else {
                due(field.getName() + " is private", Modifier.isPrivate(modifiers));
            }
        }
        due("the constants of the face: " + constants, constants.equals(Arrays.asList(CONSTANTS)));
    }

    private static boolean isOfInt(Method method) {
        for (Class<?> type : method.getParameterTypes()) {
            if (type != int.class) {
                return false;
            }
        }
        return method.getReturnType() == int.class && !Modifier.isStatic(method.getModifiers());
    }

    private static void theClassesInside() {
        Class<?>[] inside = ThreeLegs.class.getDeclaredClasses();
        due("at most twelve classes", inside.length < 12);
        atMostTwentyFields(ThreeLegs.class);
        for (Class<?> one : inside) {
            due(one + " is static", Modifier.isStatic(one.getModifiers()));
            due(one + " is not public", !Modifier.isPublic(one.getModifiers()));
            due(one + " is not protected", !Modifier.isProtected(one.getModifiers()));
            atMostTwentyFields(one);
            for (Method method : one.getDeclaredMethods()) {
                due(one + "." + method.getName() + " bears no public name",
                    !Arrays.asList(NAMES).contains(method.getName()));
                due(one + "." + method.getName() + " takes at most seven", method.getParameterCount() <= 7);
            }
        }
    }

    private static void atMostTwentyFields(Class<?> one) {
        int own = 0;
        for (Field field : one.getDeclaredFields()) {
            own += Modifier.isStatic(field.getModifiers()) ? 0 : 1;
        }
        due(one + " has at most twenty fields", own <= 20);
    }

    private static void theStaticFields() {
        List<Class<?>> all = new ArrayList<>(Arrays.asList(ThreeLegs.class.getDeclaredClasses()));
        all.add(ThreeLegs.class);
        for (Class<?> one : all) {
            for (Field field : one.getDeclaredFields()) {
                if (Modifier.isStatic(field.getModifiers())) {
                    due(field + " is final", Modifier.isFinal(field.getModifiers()));
                    due(field + " is a number or a sign", field.getType().isPrimitive());
                }
            }
        }
    }

    private static void theText(String text) {
        String code = text.replaceAll("(?s)/\\*.*?\\*/", "").replaceAll("//[^\n]*", "");
        for (String pattern : NOT_LET) {
            Matcher matcher = Pattern.compile(pattern).matcher(code);
            due("the text holds no " + pattern, !matcher.find());
        }
        Matcher taken = Pattern.compile("\\b[A-Z]\\w*\\s*\\.\\s*\\w+").matcher(code);
        while (taken.find()) {
            due(taken.group() + " stands in rule 4", OF_THE_LIBRARY.contains(taken.group()));
        }
        due("signs of 1 to 127 alone", text.chars().allMatch(sign -> sign < 128));
        int length = 0;
        for (String line : text.split("\n", -1)) {
            length = line.matches(" {4,8}\\}") ? 0 : length + 1;
            due("at most sixty lines from one end to the next, near: " + line, length <= 60);
        }
    }
}
