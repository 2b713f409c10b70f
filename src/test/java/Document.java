import java.io.IOException;
import java.nio.file.Files;
import java.nio.file.Path;
import java.util.ArrayList;
import java.util.Arrays;
import java.util.List;
import java.util.Map;
import java.util.TreeMap;
import java.util.regex.Matcher;
import java.util.regex.Pattern;

/** What tests ask of the document: its public face, its groups of calls, its terms and promises. */
final class Document {
    static final int PROMISES = 32;

    /** A call of the public face, as it stands there. */
    record Call(String answers, String name, List<String> types, List<String> names) {
        String withTypes() {
            return name + "(" + String.join(",", types) + ")";
        }

        String withNames() {
            return name + "(" + String.join(", ", names) + ")";
        }
    }

    private final String text;

    Document(Path path) throws IOException {
        text = Files.readString(path);
    }

    List<Call> face() {
        List<Call> calls = new ArrayList<>();
        Matcher m = Pattern.compile("public (\\w+) (\\w+)\\(([^)]*)\\);").matcher(faceText());
        while (m.find()) {
            List<String> types = new ArrayList<>(), names = new ArrayList<>();
            for (String one : m.group(3).isEmpty() ? new String[0] : m.group(3).split(", ")) {
                types.add(one.split(" ")[0]);
                names.add(one.split(" ")[1]);
            }
            calls.add(new Call(m.group(1), m.group(2), types, names));
        }
        return calls;
    }

    Map<String, Integer> constants() {
        Map<String, Integer> found = new TreeMap<>();
        Matcher m = Pattern.compile("(\\w+) = (-?\\d+)").matcher(between(faceText(), "public static final int", ";"));
        while (m.find()) {
            found.put(m.group(1), Integer.valueOf(m.group(2)));
        }
        return found;
    }

    /** The names of the calls, by the words that the interface says ahead of them. */
    List<List<String>> groups() {
        List<List<String>> groups = new ArrayList<>();
        Matcher m = Pattern.compile("Ahead of the calls `(.*)` the interface says").matcher(text);
        while (m.find()) {
            groups.add(Arrays.asList(m.group(1).split("`, `")));
        }
        return groups;
    }

    /** The words that the interface says ahead of each group of calls. */
    List<String> headings() {
        List<String> headings = new ArrayList<>();
        Matcher m = Pattern.compile("the interface says: (.*)\\.").matcher(text);
        while (m.find()) {
            headings.add(m.group(1));
        }
        return headings;
    }

    /** What the tests of sentences are to be of: by promises, and ahead of them (0) the terms and two sentences beside them. */
    String[] sections() {
        String plain = text.replace("```text", "").replace("```", "").replaceAll("==== \\d", "").replaceAll("\\s+", " ");
        String[] sections = new String[PROMISES + 1];
        sections[0] = between(plain, "An object is used", "; what later") + " " + between(plain, "Answers below 0", "Ahead of the calls")
            + " " + between(plain, "sheets 0 .. 3", "## Promise 1:");
        for (int p = 1; p <= PROMISES; p++) {
            String whole = between(plain, "## Promise " + p + ":", p == PROMISES ? "## Not promised" : "## Promise " + (p + 1) + ":");
            sections[p] = whole.substring(whole.indexOf("`: ") + 3);
        }
        return sections;
    }

    private String faceText() {
        return between(text, "## The public face", "## Terms");
    }

    static String between(String text, String from, String to) {
        int start = text.indexOf(from);
        return text.substring(start, text.indexOf(to, start));
    }
}
