import java.lang.reflect.Constructor;
import java.lang.reflect.Field;
import java.lang.reflect.Method;
import java.lang.reflect.Modifier;
import java.nio.file.Files;
import java.nio.file.Path;
import java.util.Arrays;
import java.util.Map;
import java.util.Set;
import java.util.TreeMap;
import java.util.TreeSet;
import java.util.regex.Matcher;
import java.util.regex.Pattern;

/** The public face, and what of LANGUAGE.md can be seen from outside. The arguments are the paths of source and document. */
public final class LanguageTest {
    private static final Set<String> LIBRARY = Set.of("System.arraycopy", "Integer.bitCount");
    private static final String[] RULED_OUT = {"try", "catch", "finally", "throw", "throws", "import", "package", "synchronized", "assert",
        "native", "transient", "volatile", "\\w+Exact", "System\\.(?!arraycopy)\\w+", "double", "float", "toString", "hashCode", "Object"};

    private static int wrong = 0;

    private static void hold(boolean holds, String what) {
        if (!holds) {
            wrong++;
            System.out.println("does not hold: " + what);
        }
    }

    private static String signature(Method m) {
        String types = String.join(",", Arrays.stream(m.getParameterTypes()).map(Class::getName).toList());
        return m.getName() + "(" + types + ")";
    }

    private static void face(Document document) throws IllegalAccessException {
        Set<String> methods = new TreeSet<>(), names = new TreeSet<>(), due = new TreeSet<>();
        Map<String, Integer> constants = new TreeMap<>();
        for (Document.Call call : document.face()) {
            due.add(call.withTypes());
            hold(call.answers().equals("int"), "all answers of the face are ints, but of " + call.name());
        }
        for (Method m : SixBeds.class.getDeclaredMethods()) {
            if (Modifier.isPublic(m.getModifiers())) {
                methods.add(signature(m));
                names.add(m.getName());
                hold(m.getReturnType() == int.class && !Modifier.isStatic(m.getModifiers()), m + " answers an int of an object");
            }
        }
        for (Field f : SixBeds.class.getDeclaredFields()) {
            if (Modifier.isPublic(f.getModifiers())) {
                constants.put(f.getName(), f.getInt(null));
            }
        }
        hold(due.size() == Document.PROMISES - 1, "a promise for each call, and one for the constructor");
        hold(methods.equals(due), "the methods of the face, but " + methods);
        hold(constants.equals(document.constants()), "the constants of the face, but " + constants);
        Constructor<?>[] made = SixBeds.class.getDeclaredConstructors();
        hold(made.length == 1 && made[0].getParameterCount() == 0 && Modifier.isPublic(made[0].getModifiers()), "the constructor");
        hold(Modifier.isFinal(SixBeds.class.getModifiers()) && Modifier.isPublic(SixBeds.class.getModifiers()), "the class is public and final");
        inside(SixBeds.class, names);
        for (Class<?> c : SixBeds.class.getDeclaredClasses()) {
            hold(Modifier.isStatic(c.getModifiers()) && !Modifier.isPublic(c.getModifiers()), c + " is static and not public");
            inside(c, names);
        }
        hold(SixBeds.class.getDeclaredClasses().length < 12, "at most twelve classes");
    }

    private static void inside(Class<?> c, Set<String> names) {
        int fields = 0;
        for (Method m : c.getDeclaredMethods()) {
            boolean ofTheFace = c == SixBeds.class && Modifier.isPublic(m.getModifiers());
            hold(ofTheFace || !names.contains(m.getName()), m + " bears no name of the face");
            hold(c != SixBeds.class || ofTheFace || Modifier.isPrivate(m.getModifiers()), m + " is private");
            hold(m.getParameterCount() <= 7, m + " has at most seven parameters");
        }
        for (Field f : c.getDeclaredFields()) {
            boolean fixed = Modifier.isStatic(f.getModifiers());
            fields += fixed ? 0 : 1;
            hold(!fixed || Modifier.isFinal(f.getModifiers()), f + " is final");
            hold(c != SixBeds.class || Modifier.isPrivate(f.getModifiers()) || fixed && Modifier.isPublic(f.getModifiers()), f + " is private");
        }
        hold(fields <= 20, c + " has at most twenty fields");
    }

    /** Names that begin as those of classes do: the class's own, or what the library has for it. */
    private static void library(String code) {
        Set<String> own = new TreeSet<>(Set.of("SixBeds"));
        for (Class<?> c : SixBeds.class.getDeclaredClasses()) {
            own.add(c.getSimpleName());
        }
        Matcher m = Pattern.compile("\\b([A-Z]\\w*[a-z]\\w*)(\\.\\w+)?").matcher(code);
        while (m.find()) {
            hold(own.contains(m.group(1)) || LIBRARY.contains(m.group()), "the library that is used, but " + m.group());
        }
    }

    private static void source(String text) {
        String code = text.replaceAll("(?s)/\\*.*?\\*/", "").replaceAll("//[^\n]*", "").replaceAll("'.'", "' '");
        for (String word : RULED_OUT) {
            Matcher m = Pattern.compile("\\b" + word + "\\b").matcher(code);
            hold(!m.find(), "the source is without " + word);
        }
        library(code);
        hold(!code.contains("->") && !code.contains("::"), "no lambda, no method reference");
        hold(!code.contains("\""), "no text is needed");
        int lines = 0;
        for (String line : text.split("\n")) {
            boolean opens = line.matches("( {4}| {8})[a-z].*\\) \\{");
            lines = opens ? 1 : line.matches("( {4}| {8})\\}") ? 0 : lines == 0 ? 0 : lines + 1;
            hold(lines <= 60, "methods of sixty lines, at " + line.trim());
            hold(line.chars().allMatch(c -> c < 127), "plain signs, at " + line.trim());
        }
    }

    public static void main(String[] args) throws Exception {
        Document document = new Document(Path.of(args[1]));
        String text = Files.readString(Path.of(args[0]));
        face(document);
        source(text);
        for (String heading : document.headings()) {
            hold(text.contains("// " + heading + "\n"), "the words ahead of the calls: " + heading);
        }
        System.out.println(wrong + " rules do not hold");
        if (wrong != 0) {
            System.exit(1);
        }
    }
}
