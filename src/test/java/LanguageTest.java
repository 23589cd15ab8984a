import java.io.IOException;
import java.lang.reflect.Constructor;
import java.lang.reflect.Field;
import java.lang.reflect.Method;
import java.lang.reflect.Modifier;
import java.nio.file.Files;
import java.nio.file.Path;
import java.util.Arrays;
import java.util.HashSet;
import java.util.List;
import java.util.Set;
import java.util.TreeSet;
import java.util.regex.Matcher;
import java.util.regex.Pattern;
import java.util.stream.Collectors;

/** The public face, and those rules of LANGUAGE.md that can be looked up in the class and in its text. */
public final class LanguageTest {
    private static final Path DOCUMENT = Path.of("../shared/DOC.md");
    private static final Path SOURCE = Path.of("src/main/java/HoleHouse.java");
    private static final int LONGEST_METHOD = 60;

    private static final List<String> FORBIDDEN = List.of(
        "\\bthrow\\b", "\\btry\\b", "\\bcatch\\b", "\\bsynchronized\\b", "\\bassert\\b", "->", "::", "\\bimport\\b",
        "\\bpackage\\b", "\\bvar\\b", "\\bNaN\\b", "\\bequals\\b", "\\bhashCode\\b", "\\btoString\\b", "Exact\\b",
        "\\bstatic\\s*\\{", "\\bprotected\\b", "\\bThread\\b", "\\bRandom\\b", "nanoTime", "currentTimeMillis");

    private static final Set<String> LIBRARY = Set.of("Long.bitCount", "Integer.bitCount", "System.arraycopy");

    private static final Check check = new Check();

    public static void main(String[] args) throws IOException {
        face();
        names();
        inside();
        statics();
        text();
        rowsOnlyInConstructors();
        methodsAreShort();
        check.finish();
    }

    private static String told(Method method) {
        return method.getReturnType() + " " + method.getName() + "("
            + Arrays.stream(method.getParameterTypes()).map(Class::getName).collect(Collectors.joining(",")) + ")";
    }

    /** The members that the document's public face has, in Java's own words. */
    private static Set<String> promised() throws IOException {
        String document = Files.readString(DOCUMENT);
        String face = document.substring(Math.max(document.indexOf("## The public face"), 0));
        Matcher lines = Pattern.compile("(?m)^    public ([^;]+);$").matcher(face);
        Set<String> members = new TreeSet<>();
        while (lines.find()) {
            members.add(lines.group(1).replaceAll("\\bint \\w+(?=[,)])", "int").replace(", ", ","));
        }
        return members;
    }

    private static void face() throws IOException {
        check.hold("public and final", HoleHouse.class.getModifiers() == (Modifier.PUBLIC | Modifier.FINAL));
        Set<String> seen = new TreeSet<>();
        for (Method method : HoleHouse.class.getDeclaredMethods()) {
            if (!Modifier.isPrivate(method.getModifiers())) {
                check.hold("only public: " + told(method), method.getModifiers() == Modifier.PUBLIC);
                seen.add(told(method));
            }
        }
        seen.add("HoleHouse()");
        seen.add("static final int NONE = " + HoleHouse.NONE);
        check.hold("the document's face " + promised() + " and the class's " + seen, seen.equals(promised()));
        for (Field field : HoleHouse.class.getDeclaredFields()) {
            boolean constant = field.getName().equals("NONE");
            check.hold("field " + field, constant == Modifier.isPublic(field.getModifiers()));
            check.hold("field " + field, constant || Modifier.isPrivate(field.getModifiers()));
        }
        Constructor<?>[] constructors = HoleHouse.class.getDeclaredConstructors();
        check.hold("one constructor", constructors.length == 1);
        check.hold("public, with nothing", constructors[0].getModifiers() == Modifier.PUBLIC
            && constructors[0].getParameterCount() == 0);
    }

    private static void names() {
        Set<String> open = new HashSet<>();
        for (Method method : HoleHouse.class.getDeclaredMethods()) {
            if (Modifier.isPublic(method.getModifiers())) {
                open.add(method.getName());
            }
        }
        for (Class<?> one : withInside()) {
            for (Method method : one.getDeclaredMethods()) {
                check.hold(method + " bears no name of the face",
                    Modifier.isPublic(method.getModifiers()) || !open.contains(method.getName()));
                check.hold(method + " has at most seven parameters", method.getParameterCount() <= 7);
            }
        }
    }

    private static List<Class<?>> withInside() {
        Class<?>[] inner = HoleHouse.class.getDeclaredClasses();
        Class<?>[] all = Arrays.copyOf(inner, inner.length + 1);
        all[inner.length] = HoleHouse.class;
        return List.of(all);
    }

    private static void inside() {
        check.hold("at most twelve classes", withInside().size() <= 12);
        for (Class<?> one : HoleHouse.class.getDeclaredClasses()) {
            check.hold(one + " is static", Modifier.isStatic(one.getModifiers()));
            check.hold(one + " is not open", !Modifier.isPublic(one.getModifiers())
                && !Modifier.isProtected(one.getModifiers()));
            check.hold(one + " has no classes inside", one.getDeclaredClasses().length == 0);
        }
    }

    private static void statics() {
        Set<Class<?>> allowed = Set.of(int.class, long.class, boolean.class, char.class, String.class, int[].class,
            long[].class, char[].class, byte[].class);
        for (Class<?> one : withInside()) {
            int own = 0;
            for (Field field : one.getDeclaredFields()) {
                boolean isStatic = Modifier.isStatic(field.getModifiers());
                own += isStatic ? 0 : 1;
                check.hold(field + " is final", !isStatic || Modifier.isFinal(field.getModifiers()));
                check.hold(field + " is plain", !isStatic || allowed.contains(field.getType()));
            }
            check.hold(one + " has at most twenty fields", own <= 20);
        }
    }

    private static String source() throws IOException {
        String text = Files.readString(SOURCE);
        return text.replaceAll("(?s)/\\*.*?\\*/", "").replaceAll("//[^\n]*", "");
    }

    private static void text() throws IOException {
        String source = source();
        for (String pattern : FORBIDDEN) {
            check.hold("the text has no " + pattern, !Pattern.compile(pattern).matcher(source).find());
        }
        Matcher calls = Pattern.compile("\\b(?:Long|Integer|Math|System|Arrays)\\.\\w+").matcher(source);
        while (calls.find()) {
            check.hold("the library has " + calls.group(), LIBRARY.contains(calls.group()));
        }
        check.hold("signs 1 to 127 alone", Files.readString(SOURCE).chars().allMatch(c -> c > 0 && c < 128));
    }

    /** So a run's objects and elements are those of its constructors, however many calls follow. */
    private static void rowsOnlyInConstructors() throws IOException {
        String constructor = "";
        for (String line : source().split("\n")) {
            Matcher head = Pattern.compile("^ {4,8}(?:public )?(\\w+)\\([^)]*\\) \\{$").matcher(line);
            if (head.find()) {
                constructor = head.group(1);
            } else if (line.matches("^ {4,8}\\}$")) {
                constructor = "";
            }
            check.hold("made in a constructor: " + line.trim(),
                !line.matches(".*\\bnew\\b.*") || !constructor.isEmpty());
        }
    }

    private static void methodsAreShort() throws IOException {
        String head = "^( {4,8})(?! )[^\n;=]*?(\\w+)\\([^)]*\\) \\{\n";
        Matcher methods = Pattern.compile("(?ms)" + head + ".*?^\\1\\}$").matcher(source());
        int seen = 0;
        while (methods.find()) {
            seen++;
            long lines = methods.group().lines().count();
            check.hold(methods.group(2) + " has " + lines + " lines", lines <= LONGEST_METHOD);
        }
        check.hold("methods were found: " + seen, seen > promised().size());
    }
}
