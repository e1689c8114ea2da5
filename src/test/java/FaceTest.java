import java.io.IOException;
import java.lang.reflect.Constructor;
import java.lang.reflect.Field;
import java.lang.reflect.Method;
import java.lang.reflect.Modifier;
import java.nio.file.Files;
import java.nio.file.Path;
import java.util.ArrayList;
import java.util.List;
import java.util.Set;
import java.util.TreeSet;
import java.util.regex.Matcher;
import java.util.regex.Pattern;

/** The face is the document's, and the source keeps to what can be seen of LANGUAGE.md. */
public final class FaceTest {
    private static final Path SOURCE = Path.of("src/main/java/FeltZither.java");
    private static final Path DOCUMENT = Path.of("../shared/DOC.md");

    private static final String[] BANNED = {
        "throw", "throws", "try", "catch", "synchronized", "assert", "->", "::", "Exact(", "NaN",
        "System.out", "System.nano", "System.current", "Random", "Thread", "hashCode", "equals(",
        "toString", "var ", "goto", "volatile", "transient", "native", "static {", "record "
    };

    private static final Check CHECK = new Check("face");

    public static void main(String[] args) throws IOException {
        members();
        constants();
        nestedClasses();
        source();
        CHECK.finish();
    }

    private static String signature(Class<?> answer, String name, Class<?>[] parameters) {
        StringBuilder text = new StringBuilder(answer.getSimpleName()).append(' ').append(name);
        for (Class<?> parameter : parameters) {
            text.append(' ').append(parameter.getSimpleName());
        }
        return text.toString();
    }

    private static Set<String> documented() throws IOException {
        Set<String> found = new TreeSet<>();
        Pattern line = Pattern.compile("^    public (int|long) (\\w+)\\(([^)]*)\\);$", Pattern.MULTILINE);
        Matcher match = line.matcher(Files.readString(DOCUMENT));
        while (match.find()) {
            StringBuilder text = new StringBuilder(match.group(1)).append(' ').append(match.group(2));
            for (String parameter : match.group(3).split(", ")) {
                if (!parameter.isEmpty()) {
                    text.append(' ').append(parameter.split(" ")[0]);
                }
            }
            found.add(text.toString());
        }
        return found;
    }

    private static void members() throws IOException {
        Set<String> open = new TreeSet<>();
        Set<String> openNames = new TreeSet<>();
        for (Method method : FeltZither.class.getDeclaredMethods()) {
            if (!Modifier.isPrivate(method.getModifiers())) {
                open.add(signature(method.getReturnType(), method.getName(), method.getParameterTypes()));
                openNames.add(method.getName());
                CHECK.holds(method + " is public", Modifier.isPublic(method.getModifiers()));
                CHECK.holds(method + " is no static one", !Modifier.isStatic(method.getModifiers()));
            }
        }
        CHECK.due("methods of the face", open.size(), 50);
        CHECK.holds("the face " + open + " is " + documented(), open.equals(documented()));
        for (Method method : FeltZither.class.getDeclaredMethods()) {
            if (Modifier.isPrivate(method.getModifiers())) {
                CHECK.holds(method + " has a name of its own", !openNames.contains(method.getName()));
            }
        }
        Constructor<?>[] constructors = FeltZither.class.getDeclaredConstructors();
        CHECK.due("constructors", constructors.length, 1);
        CHECK.due("their parameters", constructors[0].getParameterCount(), 0);
        CHECK.holds("the class is public and final",
                (FeltZither.class.getModifiers() & (Modifier.PUBLIC | Modifier.FINAL))
                        == (Modifier.PUBLIC | Modifier.FINAL));
    }

    private static void constants() {
        CHECK.due("UNKNOWN", FeltZither.UNKNOWN, -1);
        CHECK.due("OUTSIDE", FeltZither.OUTSIDE, -2);
        CHECK.due("STATE", FeltZither.STATE, -3);
        CHECK.due("FULL", FeltZither.FULL, -4);
        CHECK.due("NONE", FeltZither.NONE, -9);
        CHECK.due("LOST", FeltZither.LOST, Long.MIN_VALUE);
        int open = 0;
        for (Field field : FeltZither.class.getDeclaredFields()) {
            if (!Modifier.isPrivate(field.getModifiers())) {
                open++;
                CHECK.holds(field + " is a public constant", Modifier.isPublic(field.getModifiers())
                        && Modifier.isStatic(field.getModifiers()) && Modifier.isFinal(field.getModifiers()));
            }
        }
        CHECK.due("open fields", open, 6);
    }

    private static void nestedClasses() {
        Set<String> face = new TreeSet<>();
        for (Method method : FeltZither.class.getMethods()) {
            face.add(method.getName());
        }
        List<Class<?>> all = new ArrayList<>(List.of(FeltZither.class.getDeclaredClasses()));
        CHECK.holds("there are twelve classes at most", all.size() + 1 <= 12);
        for (Class<?> nested : all) {
            CHECK.holds(nested + " is static", Modifier.isStatic(nested.getModifiers()));
            CHECK.holds(nested + " is not public", !Modifier.isPublic(nested.getModifiers())
                    && !Modifier.isProtected(nested.getModifiers()));
            for (Method method : nested.getDeclaredMethods()) {
                CHECK.holds(method + " has a name of its own", !face.contains(method.getName()));
            }
        }
        all.add(FeltZither.class);
        for (Class<?> one : all) {
            int fields = 0;
            for (Field field : one.getDeclaredFields()) {
                boolean isStatic = Modifier.isStatic(field.getModifiers());
                fields += isStatic ? 0 : 1;
                CHECK.holds(field + " is final, if it is static",
                        !isStatic || Modifier.isFinal(field.getModifiers()));
            }
            CHECK.holds(one + " has twenty fields at most", fields <= 20);
            for (Method method : one.getDeclaredMethods()) {
                CHECK.holds(method + " has seven parameters at most", method.getParameterCount() <= 7);
            }
        }
    }

    private static void source() throws IOException {
        String bare = Files.readString(SOURCE)
                .replaceAll("(?s)/\\*.*?\\*/", " ").replaceAll("//[^\n]*", " ");
        for (String banned : BANNED) {
            boolean word = Character.isLetter(banned.charAt(banned.length() - 1));
            String pattern = (word ? "\\b" : "") + Pattern.quote(banned) + (word ? "\\b" : "");
            CHECK.holds("no " + banned, !Pattern.compile(pattern).matcher(bare).find());
        }
        Matcher imports = Pattern.compile("import ([\\w.]+);").matcher(bare);
        while (imports.find()) {
            CHECK.holds("import " + imports.group(1), imports.group(1).equals("java.util.Arrays"));
        }
        CHECK.holds("no package line", !Pattern.compile("(?m)^package ").matcher(bare).find());
        CHECK.holds("signs 1 to 127 alone", Files.readString(SOURCE).chars().allMatch(c -> c > 0 && c < 128));
    }
}
