import java.io.IOException;
import java.lang.reflect.Constructor;
import java.lang.reflect.Field;
import java.lang.reflect.Method;
import java.lang.reflect.Modifier;
import java.nio.file.Files;
import java.nio.file.Path;
import java.util.ArrayList;
import java.util.List;
import java.util.Set;
import java.util.TreeSet;
import java.util.regex.Matcher;
import java.util.regex.Pattern;

/** The public face, and some rules of LANGUAGE.md that can be seen from outside. */
final class FaceTest {
    private static final String[] METHODS = {
        "buy2", "charge2", "scrap1", "lot2", "melt1", "set2", "pour2", "tune2", "smash1", "bell2", "order3", "cancel1",
        "send2", "orderOf2", "tuneFor2", "pourFor1", "wagons1", "account2", "count1", "undo0", "type1", "clearText0",
        "fault1", "frame1"};

    /** What the class uses of the library; all of it stands in LANGUAGE.md. */
    private static final Set<String> LIBRARY =
            Set.of("Math.abs", "Math.max", "Math.min", "Arrays.fill", "System.arraycopy");

    private FaceTest() {
    }

    public static void main(String[] args) throws IOException {
        classAndConstants();
        methods();
        onlyTheFaceIsSeen();
        sizes();
        source();
        Due.end();
    }

    private static void classAndConstants() {
        Due.holds("public final class", Modifier.isPublic(BellFoundry.class.getModifiers())
                && Modifier.isFinal(BellFoundry.class.getModifiers()));
        Due.due("INVALID_ARGUMENT", BellFoundry.INVALID_ARGUMENT, -1);
        Due.due("NOT_POSSIBLE", BellFoundry.NOT_POSSIBLE, -2);
        Due.due("LIMIT_REACHED", BellFoundry.LIMIT_REACHED, -3);
        Due.due("NOT_FOUND", BellFoundry.NOT_FOUND, -4);
    }

    private static void methods() {
        Set<String> due = new TreeSet<>(Set.of(METHODS));
        Set<String> seen = new TreeSet<>();
        Set<String> names = new TreeSet<>();
        for (String method : METHODS) {
            names.add(method.substring(0, method.length() - 1));
        }
        for (Method method : BellFoundry.class.getDeclaredMethods()) {
            if (Modifier.isPrivate(method.getModifiers())) {
                Due.holds("no private method is named " + method.getName(), !names.contains(method.getName()));
                continue;
            }
            seen.add(method.getName() + method.getParameterCount());
            Due.holds(method + " is public and answers an int", Modifier.isPublic(method.getModifiers())
                    && !Modifier.isStatic(method.getModifiers()) && method.getReturnType() == int.class);
            for (Class<?> parameter : method.getParameterTypes()) {
                Due.holds("ints alone in " + method, parameter == int.class);
            }
        }
        Due.holds("the methods of the face: " + seen, seen.equals(due));
    }

    private static void onlyTheFaceIsSeen() {
        Constructor<?>[] constructors = BellFoundry.class.getDeclaredConstructors();
        Due.holds("one public constructor without parameters", constructors.length == 1
                && Modifier.isPublic(constructors[0].getModifiers()) && constructors[0].getParameterCount() == 0);
        int constants = 0;
        for (Field field : BellFoundry.class.getDeclaredFields()) {
            if (!Modifier.isPrivate(field.getModifiers())) {
                constants++;
            }
            Due.holds(field + " is final if it is static",
                    !Modifier.isStatic(field.getModifiers()) || Modifier.isFinal(field.getModifiers()));
        }
        Due.due("public constants", constants, 4);
        for (Class<?> inside : BellFoundry.class.getDeclaredClasses()) {
            Due.holds(inside + " is static and not public", Modifier.isStatic(inside.getModifiers())
                    && !Modifier.isPublic(inside.getModifiers()) && !Modifier.isProtected(inside.getModifiers()));
        }
        Due.holds("some twelve classes at most", BellFoundry.class.getDeclaredClasses().length <= 11);
    }

    private static void sizes() {
        List<Class<?>> classes = new ArrayList<>(List.of(BellFoundry.class.getDeclaredClasses()));
        classes.add(BellFoundry.class);
        for (Class<?> each : classes) {
            int fields = 0;
            for (Field field : each.getDeclaredFields()) {
                fields += Modifier.isStatic(field.getModifiers()) ? 0 : 1;
            }
            Due.holds(each + " has some twenty fields at most", fields <= 20);
            for (Method method : each.getDeclaredMethods()) {
                Due.holds(method + " takes at most seven parameters", method.getParameterCount() <= 7);
            }
        }
    }

    private static void source() throws IOException {
        String source = Files.readString(Path.of("src/main/java/BellFoundry.java"));
        String code = source.replaceAll("(?s)/\\*.*?\\*/", "").replaceAll("//[^\n]*", "");
        Matcher barred = Pattern.compile("\\b(throw|throws|try|catch|synchronized|assert|package|Exception|hashCode|toString|"
                + "Object|System\\.(?!arraycopy)\\w+|Random|Thread|protected)\\b|->|::").matcher(code);
        Due.holds("no barred word" + (barred.find() ? ": " + barred.group() : ""), !barred.reset().find());
        Matcher imports = Pattern.compile("import [^;]*;").matcher(code);
        while (imports.find()) {
            Due.holds(imports.group(), imports.group().matches("import java\\.util\\.(Arrays|ArrayList|List|Iterator);"));
        }
        Due.holds("signs 1 to 127 alone", code.chars().allMatch(sign -> sign > 0 && sign < 128));
        Matcher library = Pattern.compile("\\b(Math|Arrays|System|Integer|Long|List|String)\\.\\w+").matcher(code);
        while (library.find()) {
            Due.holds(library.group() + " is in the library", LIBRARY.contains(library.group()));
        }
        lengths(source);
    }

    /** A method begins and ends with lines that stand as far in. */
    private static void lengths(String source) {
        Matcher method = Pattern.compile("(?ms)^( {4}| {8})[^ \n;{}][^\n;{}]*\\) \\{\n.*?^\\1\\}$").matcher(source);
        int found = 0;
        while (method.find()) {
            found++;
            String name = method.group().lines().findFirst().orElse("").trim();
            Due.holds(name + " has some sixty lines at most", method.group().lines().count() <= 60);
        }
        Due.holds("methods were found: " + found, found > 100);
    }
}
