import java.io.IOException;
import java.nio.file.Files;
import java.nio.file.Path;
import java.util.ArrayList;
import java.util.LinkedHashSet;
import java.util.List;
import java.util.Map;
import java.util.Set;
import java.util.TreeMap;
import java.util.TreeSet;
import java.util.regex.Matcher;
import java.util.regex.Pattern;
import java.util.stream.Stream;

/** Whether what README.md says is so. The second argument is the document's path, the third README.md's. */
public final class ReadmeTest {
    private static final Pattern REFUSAL = Pattern.compile("\\b(BAD|NOT|FULL|NONE|NULL|CAST|INDEX|SIZE|FAULT)\\b");
    private static final Pattern EXAMPLE = Pattern.compile("x\\.(\\w+)\\((.*)\\); +// (-?\\w+): .*");

    private static int wrong = 0;

    private static void hold(boolean holds, String what) {
        if (!holds) {
            wrong++;
            System.out.println("README.md: " + what);
        }
    }

    private static void same(String what, Object got, Object want) {
        hold(got.equals(want), what + " are " + got + ", due is " + want);
    }

    private static List<String> found(String pattern, String text) {
        List<String> found = new ArrayList<>();
        Matcher m = Pattern.compile(pattern, Pattern.MULTILINE | Pattern.DOTALL).matcher(text);
        while (m.find()) {
            found.add(m.group(1));
        }
        return found;
    }

    /** All examples are one run; each call has its answer at the beginning of its remark. */
    private static void examples(String readme) {
        StringBuilder lines = new StringBuilder();
        int made = 0;
        for (String block : found("^```java\n(.*?)^```", readme)) {
            for (String line : block.split("\n")) {
                Matcher m = EXAMPLE.matcher(line);
                if (line.startsWith("SixBeds x = new SixBeds();")) {
                    made++;
                } else if (m.matches()) {
                    lines.append(m.group(1) + "(" + m.group(2).replace("_", "").replaceAll("L\\b", "") + ") = " + m.group(3) + "\n");
                } else {
                    hold(false, "an example without its answer: " + line);
                }
            }
        }
        hold(made == 1, "the examples are one run");
        for (String fault : Run.faults(lines.toString())) {
            hold(false, "of the examples: " + fault);
        }
    }

    /** A text as it is typed in the examples stands in quotes in the remark. */
    private static void typedTexts(String readme) {
        Matcher m = Pattern.compile("x\\.type\\((0x\\w+)L, (\\d)\\);.*\"(.*)\"").matcher(readme);
        int texts = 0;
        while (m.find()) {
            texts++;
            long typed = 0;
            for (char c : m.group(3).toCharArray()) {
                typed = typed << 8 | c;
            }
            same("bytes of \"" + m.group(3) + "\"", Long.decode(m.group(1).replace("_", "")), typed);
            same("how many bytes of \"" + m.group(3) + "\"", Integer.valueOf(m.group(2)), m.group(3).length());
        }
        same("the typed texts", texts, found("x\\.(type)\\(", readme).size());
    }

    private static List<String> refusals(String text, boolean badFirst) {
        Set<String> words = new LinkedHashSet<>();
        if (badFirst && text.contains("BAD")) {
            words.add("BAD");
        }
        Matcher m = REFUSAL.matcher(text);
        while (m.find()) {
            words.add(m.group());
        }
        return new ArrayList<>(words);
    }

    private static void calls(String readme, Document document) {
        String[] promises = document.sections();
        List<List<String>> groups = new ArrayList<>();
        List<Document.Call> face = document.face();
        int promise = 1;
        for (String group : Document.between(readme, "\n## The calls", "\n## Answers below 0").split("\n### ")) {
            List<String> names = new ArrayList<>();
            for (String row : found("^(\\| `.*?)$", group)) {
                String[] cells = row.split(" ?\\| ?", -1);
                Document.Call call = promise <= face.size() ? face.get(promise - 1) : null;
                hold(call != null && cells[1].equals("`" + call.withNames() + "`"), cells[1] + " is not the call that is due");
                promise++;
                hold(promise <= Document.PROMISES, "more calls than promises");
                same("refusals of " + cells[1], refusals(cells[3], false), refusals(promises[Math.min(promise, Document.PROMISES)], true));
                names.add(cells[1].replaceAll("\\(.*|`", ""));
            }
            if (!names.isEmpty()) {
                groups.add(names);
            }
        }
        same("the groups of calls", groups, document.groups());
    }

    private static void answers(String readme, Document document) {
        String told = Document.between(readme, "\n## Answers below 0", "\n## How to run the tests");
        Map<String, Integer> constants = new TreeMap<>();
        Matcher m = Pattern.compile("^\\| `(\\w+)` \\| (-\\d+) \\| \\S.* \\|$", Pattern.MULTILINE).matcher(told);
        while (m.find()) {
            constants.put(m.group(1), Integer.valueOf(m.group(2)));
        }
        same("the answers below 0", constants, document.constants());
        String blanks = "type(0x2020202020202020, 8)\n".repeat(12) + "type(0x20202020, 4) = 100\nlodging() = -120\nlodging() = -20";
        same("the least and the greatest of faults", Run.faults(blanks), List.of());
        hold(told.contains("| -20 .. -120 |"), "faults are -20 .. -120");
    }

    private static void tests(String readme, Path tests) throws IOException {
        Set<String> files = new TreeSet<>();
        try (Stream<Path> all = Files.list(tests)) {
            all.map(file -> file.getFileName().toString()).filter(name -> name.endsWith(".java")).forEach(files::add);
        }
        Set<String> told = new TreeSet<>();
        for (String name : found("^\\| `(\\w+Test)` \\|", readme)) {
            told.add(name + ".java");
        }
        Set<String> due = new TreeSet<>(files);
        due.removeIf(file -> !file.endsWith("Test.java"));
        same("the tests", told, due);
        for (String name : found("`@?([A-Z][a-z]\\w*)`", readme)) {
            hold(files.contains(name + ".java"), name + " does not stand in " + tests);
        }
    }

    public static void main(String[] args) throws IOException {
        Document document = new Document(Path.of(args[1]));
        Path page = Path.of(args[2]);
        String readme = Files.readString(page);
        examples(readme);
        typedTexts(readme);
        calls(readme, document);
        answers(readme, document);
        tests(readme, page.toAbsolutePath().resolveSibling("src/test/java"));
        System.out.println(wrong + " words of README.md are not so");
        if (wrong != 0) {
            System.exit(1);
        }
    }
}
