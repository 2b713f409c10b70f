import java.lang.reflect.Constructor;
import java.lang.reflect.Field;
import java.lang.reflect.Method;
import java.lang.reflect.Modifier;
import java.nio.file.Files;
import java.nio.file.Path;
import java.util.Arrays;
import java.util.Set;
import java.util.TreeSet;
import java.util.regex.Matcher;
import java.util.regex.Pattern;

/** The public face, and what of LANGUAGE.md can be seen from outside. The first argument is the source's path. */
public final class LanguageTest {
    private static final String FACE = "lodger(int,int,int) leave(int) told(int,int) work(int,int) sleeps(int,int) beds(int) lasts(int) "
        + "type(long,int) lodging() count(int) first(int) ways() fewest() take() move(int,int) mended(int) rents(int) bed(int,int) "
        + "linen() sick(int,int) brought(int,int) image() restore() lay(int,int,int) judged(int,int,int) clears(int,int,int) "
        + "sheet(int,int,int) drop(int) item(int,int,int,long) film(int,int,int) copy(int,int,int,int,int)";
    private static final String CONSTANTS = "BAD=-1 NOT=-2 FULL=-3 NONE=-4 NULL=-11 CAST=-12 INDEX=-13 SIZE=-14";
    private static final String[] RULED_OUT = {"try", "catch", "finally", "throw", "throws", "import", "package", "synchronized", "assert",
        "native", "transient", "volatile", "\\w+Exact", "System\\.(?!arraycopy)\\w+", "double", "float", "toString", "hashCode", "Object"};

    private static int wrong = 0;

    private static void hold(boolean holds, String what) {
        if (!holds) {
            wrong++;
            System.out.println("does not hold: " + what);
        }
    }

    private static String signature(Method m) {
        String types = String.join(",", Arrays.stream(m.getParameterTypes()).map(Class::getName).toList());
        return m.getName() + "(" + types + ")";
    }

    private static void face() throws IllegalAccessException {
        Set<String> methods = new TreeSet<>(), names = new TreeSet<>(), constants = new TreeSet<>();
        for (Method m : SixBeds.class.getDeclaredMethods()) {
            if (Modifier.isPublic(m.getModifiers())) {
                methods.add(signature(m));
                names.add(m.getName());
                hold(m.getReturnType() == int.class && !Modifier.isStatic(m.getModifiers()), m + " answers an int of an object");
            }
        }
        for (Field f : SixBeds.class.getDeclaredFields()) {
            if (Modifier.isPublic(f.getModifiers())) {
                constants.add(f.getName() + "=" + f.getInt(null));
            }
        }
        hold(methods.equals(new TreeSet<>(Arrays.asList(FACE.split(" ")))), "the methods of the face, but " + methods);
        hold(constants.equals(new TreeSet<>(Arrays.asList(CONSTANTS.split(" ")))), "the constants of the face, but " + constants);
        Constructor<?>[] made = SixBeds.class.getDeclaredConstructors();
        hold(made.length == 1 && made[0].getParameterCount() == 0 && Modifier.isPublic(made[0].getModifiers()), "the constructor");
        hold(Modifier.isFinal(SixBeds.class.getModifiers()) && Modifier.isPublic(SixBeds.class.getModifiers()), "the class is public and final");
        inside(SixBeds.class, names);
        for (Class<?> c : SixBeds.class.getDeclaredClasses()) {
            hold(Modifier.isStatic(c.getModifiers()) && !Modifier.isPublic(c.getModifiers()), c + " is static and not public");
            inside(c, names);
        }
        hold(SixBeds.class.getDeclaredClasses().length < 12, "at most twelve classes");
    }

    private static void inside(Class<?> c, Set<String> names) {
        int fields = 0;
        for (Method m : c.getDeclaredMethods()) {
            boolean ofTheFace = c == SixBeds.class && Modifier.isPublic(m.getModifiers());
            hold(ofTheFace || !names.contains(m.getName()), m + " bears no name of the face");
            hold(c != SixBeds.class || ofTheFace || Modifier.isPrivate(m.getModifiers()), m + " is private");
            hold(m.getParameterCount() <= 7, m + " has at most seven parameters");
        }
        for (Field f : c.getDeclaredFields()) {
            boolean fixed = Modifier.isStatic(f.getModifiers());
            fields += fixed ? 0 : 1;
            hold(!fixed || Modifier.isFinal(f.getModifiers()), f + " is final");
            hold(c != SixBeds.class || Modifier.isPrivate(f.getModifiers()) || fixed && Modifier.isPublic(f.getModifiers()), f + " is private");
        }
        hold(fields <= 20, c + " has at most twenty fields");
    }

    private static void source(String text) {
        String code = text.replaceAll("(?s)/\\*.*?\\*/", "").replaceAll("//[^\n]*", "").replaceAll("'.'", "' '");
        for (String word : RULED_OUT) {
            Matcher m = Pattern.compile("\\b" + word + "\\b").matcher(code);
            hold(!m.find(), "the source is without " + word);
        }
        hold(!code.contains("->") && !code.contains("::"), "no lambda, no method reference");
        hold(!code.contains("\""), "no text is needed");
        int lines = 0;
        for (String line : text.split("\n")) {
            boolean opens = line.matches("( {4}| {8})[a-z].*\\) \\{");
            lines = opens ? 1 : line.matches("( {4}| {8})\\}") ? 0 : lines == 0 ? 0 : lines + 1;
            hold(lines <= 60, "methods of sixty lines, at " + line.trim());
            hold(line.chars().allMatch(c -> c < 127), "plain signs, at " + line.trim());
        }
    }

    public static void main(String[] args) throws Exception {
        face();
        source(Files.readString(Path.of(args[0])));
        System.out.println(wrong + " rules do not hold");
        if (wrong != 0) {
            System.exit(1);
        }
    }
}
