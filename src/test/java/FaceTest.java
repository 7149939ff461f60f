import java.io.IOException;
import java.lang.reflect.Constructor;
import java.lang.reflect.Field;
import java.lang.reflect.Member;
import java.lang.reflect.Method;
import java.lang.reflect.Modifier;
import java.nio.file.Files;
import java.nio.file.Path;
import java.util.Arrays;
import java.util.Set;
import java.util.TreeSet;
import java.util.regex.Pattern;
import java.util.stream.Collectors;
import java.util.stream.Stream;

/** The public face of the document, and those rules of LANGUAGE.md that can be seen from outside or by words. */
public final class FaceTest {
    private static final Path SHARED = Path.of("../shared/DOC.md");
    private static final Path SOURCE = Path.of("src/main/java/TruckPlatoons.java");

    public static void main(String[] args) throws IOException {
        Check.dueText("the face", String.join("\n", face()), String.join("\n", faceOfDocument()));
        Check.due("the class is public and final", TruckPlatoons.class.getModifiers(), Modifier.PUBLIC | Modifier.FINAL);
        hiddenMembers();
        insideClasses();
        forbiddenWords(Files.readString(SOURCE));
        longMethods();
        Check.end();
    }

    private static Set<String> faceOfDocument() throws IOException {
        String document = Files.readString(SHARED);
        String face = document.substring(document.indexOf("public final class"), document.indexOf("## Description"));
        return face.lines().map(String::strip).filter(line -> line.endsWith(";"))
                .map(line -> line.replaceFirst("static final int", "constant").replaceFirst("public ", "")
                        .replaceAll("(int|boolean|float) \\w+(?=[,)])", "$1"))
                .map(line -> line.replace(";", "")).collect(Collectors.toCollection(TreeSet::new));
    }

    private static Set<String> face() {
        Set<String> face = new TreeSet<>();
        for (Method method : TruckPlatoons.class.getDeclaredMethods()) {
            if (Modifier.isPublic(method.getModifiers())) {
                face.add(method.getReturnType() + " " + method.getName() + list("(", ")", method.getParameterTypes())
                        + list(" throws ", "", method.getExceptionTypes()));
            }
        }
        for (Constructor<?> constructor : TruckPlatoons.class.getDeclaredConstructors()) {
            face.add(constructor.getName() + list("(", ")", constructor.getParameterTypes()));
        }
        for (Field field : TruckPlatoons.class.getDeclaredFields()) {
            if (Modifier.isPublic(field.getModifiers())) {
                face.add("constant " + field.getName() + " = " + constant(field));
            }
        }
        return face;
    }

    private static int constant(Field field) {
        try {
            return field.getInt(null);
        } catch (IllegalAccessException e) {
            throw new IllegalStateException(e);
        }
    }

    private static String list(String begin, String end, Class<?>[] types) {
        String names = Arrays.stream(types).map(Class::getSimpleName).collect(Collectors.joining(", "));
        return types.length == 0 && end.isEmpty() ? "" : begin + names + end;
    }

    /** Rule 1. */
    private static void hiddenMembers() {
        Set<String> open = Arrays.stream(TruckPlatoons.class.getDeclaredMethods())
                .filter(method -> Modifier.isPublic(method.getModifiers())).map(Method::getName)
                .collect(Collectors.toSet());
        Stream<Member> members = Stream.of(TruckPlatoons.class.getDeclaredMethods(),
                TruckPlatoons.class.getDeclaredFields(), TruckPlatoons.class.getDeclaredConstructors())
                .flatMap(Arrays::stream);
        members.filter(member -> !Modifier.isPublic(member.getModifiers())).forEach(member -> {
            Check.due(member.getName() + " is private", Modifier.isPrivate(member.getModifiers()), true);
            Check.due(member + " bears a public name", member instanceof Method && open.contains(member.getName()), false);
        });
    }

    /** Rules 2, 5 and 11. */
    private static void insideClasses() {
        Class<?>[] inside = TruckPlatoons.class.getDeclaredClasses();
        Check.due("at most eleven classes inside", inside.length <= 11, true);
        for (Class<?> one : inside) {
            Check.due(one + " is static", Modifier.isStatic(one.getModifiers()), true);
            Check.due(one + " is not public", Modifier.isPublic(one.getModifiers()), false);
        }
        Stream.concat(Stream.of(TruckPlatoons.class), Stream.of(inside)).forEach(one -> {
            long fields = Arrays.stream(one.getDeclaredFields())
                    .filter(field -> !Modifier.isStatic(field.getModifiers())).count();
            Check.due(one + " has at most twenty fields", fields <= 20, true);
            Arrays.stream(one.getDeclaredFields()).filter(field -> Modifier.isStatic(field.getModifiers()))
                    .forEach(field -> Check.due(field + " is final", Modifier.isFinal(field.getModifiers()), true));
            Arrays.stream(one.getDeclaredMethods()).forEach(method -> Check.due(method + " has at most seven parameters",
                    method.getParameterCount() <= 7, true));
        });
    }

    /** Rules 2, 4, 6 and 13, as far as words tell. */
    private static void forbiddenWords(String source) {
        String code = source.replaceAll("(?s)/\\*.*?\\*/", "").replaceAll("//[^\n]*", "").replaceAll("\"[^\"\n]*\"", "");
        String[] words = {"\\bimport\\b", "\\bpackage\\b", "\\btry\\b", "\\bcatch\\b", "\\bfinally\\b", "\\bsynchronized\\b",
            "\\bassert\\b", "\\bdouble\\b", "\\bObject\\b", "\\bSystem\\.(?!arraycopy\\b)", "\\bInteger\\.(?!bitCount\\b)",
            "\\bMath\\.(?!(abs|min|max)\\b)", "\\bFloat\\.", "Exact\\b"};
        for (String word : words) {
            Check.due("the code has " + word, Pattern.compile(word).matcher(code).find(), false);
        }
        Check.due("the code has a lambda or a method reference", code.contains("->") || code.contains("::"), false);
        Check.due("the source is of signs 1 to 127", source.chars().allMatch(sign -> sign > 0 && sign < 128), true);
    }

    /** Rule 11: a method begins and ends as far to the left as the members of its class stand. */
    private static void longMethods() throws IOException {
        int begin = 0;
        int number = 0;
        for (String line : Files.readAllLines(SOURCE)) {
            number++;
            if (line.matches("( {4}| {8})[a-z].*\\).*\\{|( {4}| {8})[a-z].*\\)")) {
                begin = number;
            } else if (line.matches("( {4}| {8})\\}")) {
                Check.due("the method that ends at line " + number + " has at most sixty lines", number - begin < 60, true);
            }
        }
    }
}
