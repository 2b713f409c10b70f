import java.io.IOException;
import java.lang.reflect.InvocationTargetException;
import java.lang.reflect.Method;
import java.nio.file.Path;
import java.util.ArrayList;
import java.util.Arrays;
import java.util.Comparator;
import java.util.List;

/**
 * Runs the tests of single sentences, and looks in the document whether the sentences stand there, and whether any is without a test.
 * The second argument is the document's path.
 */
public final class EdgesTest {
    private static final Class<?>[] GROUPS = {TermEdges.class, LodgerEdges.class, TextEdges.class, RowEdges.class, BedEdges.class,
        ColdEdges.class, SheetEdges.class};

    private static int wrong = 0;

    private static void tell(String fault) {
        wrong++;
        System.out.println(fault);
    }

    private static List<Method> tests() {
        List<Method> found = new ArrayList<>();
        for (Class<?> group : GROUPS) {
            Method[] all = group.getDeclaredMethods();
            Arrays.sort(all, Comparator.comparing(Method::getName));
            for (Method m : all) {
                if (m.getAnnotation(Says.class) != null) {
                    found.add(m);
                }
            }
        }
        return found;
    }

    private static void runTest(Method test) throws IllegalAccessException {
        Says says = test.getAnnotation(Says.class);
        String name = (says.promise() == 0 ? "terms" : "promise " + says.promise()) + ", \"" + says.value()[0] + "\", "
            + test.getDeclaringClass().getSimpleName() + "." + test.getName() + ": ";
        try {
            test.invoke(null);
        } catch (InvocationTargetException thrown) {
            tell(name + "threw " + thrown.getCause());
        }
        for (String fault : Edges.faultsSinceLast()) {
            tell(name + fault);
        }
    }

    private static void compareWithDocument(Document document, List<Method> tests) {
        String[] sections = document.sections();
        boolean[][] tested = new boolean[sections.length][];
        for (int p = 0; p < sections.length; p++) {
            tested[p] = new boolean[sections[p].length()];
        }
        for (Method test : tests) {
            Says says = test.getAnnotation(Says.class);
            for (String sentence : says.value()) {
                int at = sections[says.promise()].indexOf(sentence);
                if (at < 0) {
                    tell(test.getName() + ": the document does not say \"" + sentence + "\" at " + says.promise());
                } else {
                    Arrays.fill(tested[says.promise()], at, at + sentence.length(), true);
                }
            }
        }
        for (int p = 0; p < sections.length; p++) {
            StringBuilder left = new StringBuilder();
            for (int k = 0; k < sections[p].length(); k++) {
                left.append(tested[p][k] ? '_' : sections[p].charAt(k));
            }
            if (left.toString().matches(".*[A-Za-z0-9].*")) {
                tell((p == 0 ? "of the terms" : "of promise " + p) + " no test is of: " + left.toString().replaceAll("_+", " _ "));
            }
        }
    }

    public static void main(String[] args) throws IllegalAccessException, IOException {
        List<Method> tests = tests();
        for (Method test : tests) {
            runTest(test);
        }
        compareWithDocument(new Document(Path.of(args[1])), tests);
        System.out.println(tests.size() + " tests of single sentences, " + wrong + " faults");
        if (wrong != 0) {
            System.exit(1);
        }
    }
}
