import java.lang.reflect.Constructor;
import java.lang.reflect.Field;
import java.lang.reflect.Method;
import java.lang.reflect.Modifier;
import java.nio.file.Files;
import java.nio.file.Path;
import java.util.ArrayList;
import java.util.Arrays;
import java.util.List;
import java.util.Set;
import java.util.TreeSet;
import java.util.regex.Pattern;

/** The public face as the document has it, and what LANGUAGE.md forbids, as far as it can be seen. */
public final class FaceTest {
    private static final Path SOURCE = Path.of("src/main/java/CornerHeaps.java");

    private static final String[] FACE = {
        "int feed 1", "int heap 1", "int fault 0", "int undo 0", "int take 5", "int drawn 5", "int lay 3",
        "int off 3", "int turn 3", "int join 4", "int drop 1", "int height 3", "int whole 2", "int path 3",
        "int slice 3", "int face 3", "int kin 2", "int orders 1", "int many 3", "long minor 4",
        "int series 4", "int weighed 5", "int symmetric 4", "int between 2", "int way 3", "int image 1",
        "int restore 1", "int count 1"};

    private static final String[] FORBIDDEN = {
        "\\bthrow\\b", "\\bthrows\\b", "\\btry\\b", "\\bcatch\\b", "\\bsynchronized\\b", "\\bassert\\b",
        "->", "::", "Exact\\(", "\\bprotected\\b", "\\bpackage\\b", "\\.equals\\(", "\\.hashCode\\(",
        "\\.toString\\(", "\\bRandom\\b", "\\bThread\\b", "\\bException\\b", "\\bObject\\b",
        "\\bstatic\\s*\\{", "\\bSystem\\.(?!arraycopy\\()", "Math\\.(random|sqrt|pow)"};

    public static void main(String[] args) throws Exception {
        constants();
        members();
        classesInside();
        words();
        lengths();
        Checks.finish();
    }

    private static void constants() {
        Checks.due("NONE", CornerHeaps.NONE, -1000000);
        Checks.due("BAD", CornerHeaps.BAD, -1000001);
        Checks.due("STATE", CornerHeaps.STATE, -1000002);
        Checks.due("FULL", CornerHeaps.FULL, -1000003);
    }

    private static void members() {
        Checks.holds("the class is public and final",
                CornerHeaps.class.getModifiers() == (Modifier.PUBLIC | Modifier.FINAL));
        Set<String> seen = new TreeSet<>();
        Set<String> publicNames = new TreeSet<>();
        Set<String> privateNames = new TreeSet<>();
        for (Method method : CornerHeaps.class.getDeclaredMethods()) {
            if (Modifier.isPrivate(method.getModifiers())) {
                privateNames.add(method.getName());
                continue;
            }
            Checks.holds(method + " is public", method.getModifiers() == Modifier.PUBLIC);
            publicNames.add(method.getName());
            seen.add(method.getReturnType() + " " + method.getName() + " " + method.getParameterCount());
            for (Class<?> parameter : method.getParameterTypes()) {
                Checks.holds(method + " takes ints", parameter == int.class);
            }
        }
        Checks.holds("the methods are " + seen, seen.equals(new TreeSet<>(Arrays.asList(FACE))));
        for (Class<?> inside : CornerHeaps.class.getDeclaredClasses()) {
            for (Method method : inside.getDeclaredMethods()) {
                privateNames.add(method.getName());
            }
        }
        privateNames.retainAll(publicNames);
        Checks.holds("private methods with public names: " + privateNames, privateNames.isEmpty());
        for (Constructor<?> constructor : CornerHeaps.class.getDeclaredConstructors()) {
            Checks.holds(constructor + " is the one of the document",
                    constructor.getModifiers() == Modifier.PUBLIC && constructor.getParameterCount() == 0);
        }
        Set<String> fields = new TreeSet<>();
        for (Field field : CornerHeaps.class.getDeclaredFields()) {
            if (!Modifier.isPrivate(field.getModifiers())) {
                fields.add(Modifier.toString(field.getModifiers()) + " " + field.getType() + " " + field.getName());
            }
        }
        Checks.holds("the constants are " + fields, fields.equals(Set.of("public static final int NONE",
                "public static final int BAD", "public static final int STATE", "public static final int FULL")));
    }

    private static void classesInside() {
        List<Class<?>> all = new ArrayList<>(Arrays.asList(CornerHeaps.class.getDeclaredClasses()));
        Checks.holds("at most twelve classes", all.size() < 12);
        for (Class<?> inside : all) {
            int modifiers = inside.getModifiers();
            Checks.holds(inside + " is static, and neither public nor protected", Modifier.isStatic(modifiers)
                    && !Modifier.isPublic(modifiers) && !Modifier.isProtected(modifiers));
        }
        all.add(CornerHeaps.class);
        for (Class<?> some : all) {
            int fields = 0;
            for (Field field : some.getDeclaredFields()) {
                boolean fixed = Modifier.isStatic(field.getModifiers());
                Checks.holds(field + " is final if static", !fixed || Modifier.isFinal(field.getModifiers()));
                fields += fixed ? 0 : 1;
            }
            Checks.holds(some + " has at most twenty fields", fields <= 20);
            for (Method method : some.getDeclaredMethods()) {
                Checks.holds(method + " takes at most seven parameters", method.getParameterCount() <= 7);
            }
        }
    }

    /** A method of the file begins with a line that ends in ") {" at the depth of members. */
    private static void lengths() throws Exception {
        List<String> lines = Files.readAllLines(SOURCE);
        int start = -1;
        String end = "";
        for (int n = 0; n < lines.size(); n++) {
            String line = lines.get(n);
            if (start < 0 && line.matches("( {4}| {8})[A-Za-z].*\\) \\{")) {
                start = n;
                end = line.replaceAll("\\S.*", "") + "}";
            } else if (start >= 0 && line.equals(end)) {
                Checks.holds("at most sixty lines: " + lines.get(start).trim(), n - start < 60);
                start = -1;
            }
        }
    }

    private static void words() throws Exception {
        String code = Files.readString(SOURCE)
                .replaceAll("(?s)/\\*.*?\\*/", " ")
                .replaceAll("//[^\n]*", " ");
        for (String forbidden : FORBIDDEN) {
            Checks.holds("no " + forbidden, !Pattern.compile(forbidden).matcher(code).find());
        }
        for (String line : code.split("\n")) {
            Checks.holds("the library: " + line, !line.startsWith("import ")
                    || line.matches("import java\\.util\\.(Arrays|ArrayList|List|Iterator);"));
        }
    }
}
