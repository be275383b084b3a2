import java.lang.reflect.Constructor;
import java.lang.reflect.Method;
import java.lang.reflect.Modifier;
import java.nio.file.Files;
import java.nio.file.Path;
import java.util.Arrays;
import java.util.List;
import java.util.Set;
import java.util.TreeSet;
import java.util.regex.Matcher;
import java.util.regex.Pattern;
import java.util.stream.Collectors;

/** The public face of the document, and rules of LANGUAGE.md that a text search can tell. */
final class FaceTest {
    private static final Path SOURCE = Path.of("src/main/java/ParrotCounts.java");

    private static final List<String> FORBIDDEN = List.of("\\bfinally\\b", "\\bsynchronized\\b", "\\bassert\\b",
        "->", "::", "\\bcatch\\b", "\\bSystem\\.(?!arraycopy)", "Exact\\(", "\\bMath\\.(?!max\\(|min\\()",
        "\\bThread\\b", "\\bRandom\\b", "[^\\x00-\\x7f]");

    private FaceTest() {
    }

    static void run() {
        Checks.test("face: the methods of the document and no others", FaceTest::methods);
        Checks.test("face: one public constructor, no fields", FaceTest::constructorAndFields);
        Checks.test("face: no private method bears the name of a public one", FaceTest::names);
        Checks.test("language: what the rules leave out is not used", FaceTest::language);
    }

    private static void methods() throws Exception {
        Set<String> due = new TreeSet<>();
        String document = Files.readString(Path.of("../shared/DOC.md"));
        Matcher lines = Pattern.compile("^    public (\\w+) (\\w+)\\((?:(\\w+) \\w+)?\\)(?: throws ([^;]+))?;$", Pattern.MULTILINE)
            .matcher(document);
        while (lines.find()) {
            String parameter = lines.group(3) == null ? "" : lines.group(3);
            String exceptions = lines.group(4) == null ? "" : lines.group(4).replace("java.util.", "");
            due.add(lines.group(1) + " " + lines.group(2) + "(" + parameter + ") " + exceptions);
        }
        Checks.same(34, due.size(), "methods of the document");
        Set<String> found = new TreeSet<>();
        for (Method method : ParrotCounts.class.getDeclaredMethods()) {
            if (!Modifier.isPrivate(method.getModifiers())) {
                found.add(described(method));
            }
        }
        Checks.same(due, found, "methods that are not private");
    }

    private static String described(Method method) {
        return method.getReturnType() + " " + method.getName() + "(" + simpleNames(method.getParameterTypes()) + ") "
            + simpleNames(method.getExceptionTypes());
    }

    private static String simpleNames(Class<?>[] types) {
        return Arrays.stream(types).map(Class::getSimpleName).collect(Collectors.joining(", "));
    }

    private static void constructorAndFields() {
        Constructor<?>[] constructors = ParrotCounts.class.getDeclaredConstructors();
        Checks.same(1, constructors.length, "constructors");
        Checks.isTrue(Modifier.isPublic(constructors[0].getModifiers()), "the constructor is public");
        Checks.same(0, constructors[0].getParameterCount(), "parameters");
        Checks.isTrue(Modifier.isFinal(ParrotCounts.class.getModifiers()), "the class is final");
        Arrays.stream(ParrotCounts.class.getDeclaredFields())
            .forEach(field -> Checks.isTrue(Modifier.isPrivate(field.getModifiers()), field + " is private"));
        Checks.isTrue(ParrotCounts.class.getDeclaredClasses().length <= 11, "some twelve classes in all");
    }

    private static void names() {
        Set<String> face = new TreeSet<>();
        for (Method method : ParrotCounts.class.getMethods()) {
            if (method.getDeclaringClass() == ParrotCounts.class) {
                face.add(method.getName());
            }
        }
        for (Method method : ParrotCounts.class.getDeclaredMethods()) {
            Checks.isTrue(Modifier.isPublic(method.getModifiers()) || !face.contains(method.getName()), method.toString());
        }
        for (Class<?> inside : ParrotCounts.class.getDeclaredClasses()) {
            for (Method method : inside.getDeclaredMethods()) {
                Checks.isTrue(!face.contains(method.getName()), method.toString());
            }
        }
    }

    private static void language() throws Exception {
        String source = Files.readString(SOURCE);
        for (String forbidden : FORBIDDEN) {
            Matcher matcher = Pattern.compile(forbidden).matcher(source);
            Checks.isTrue(!matcher.find(), "the source has " + forbidden);
        }
        Matcher imports = Pattern.compile("(?m)^import (.*);$").matcher(source);
        while (imports.find()) {
            Checks.isTrue(Set.of("java.util.Arrays", "java.util.NoSuchElementException").contains(imports.group(1)),
                "import " + imports.group(1));
        }
    }
}
