import java.util.ArrayList;
import java.util.List;

/** What the tests of single sentences share. */
abstract class Edges {
    static final int MIN = Integer.MIN_VALUE, MAX = Integer.MAX_VALUE;

    /** What was wrong since this was last asked; a test that asked for nothing is wrong, too. */
    static List<String> faultsSinceLast() {
        List<String> told = new ArrayList<>(faults);
        if (checks == 0) {
            told.add("the test asks for nothing");
        }
        faults.clear();
        checks = 0;
        return told;
    }

    private static final List<String> faults = new ArrayList<>();
    private static int checks = 0;

    /** A run on a new object; its form stands at Run. */
    static void run(String... lines) {
        checks++;
        faults.addAll(Run.faults(String.join("\n", lines)));
    }

    /** A run of which no line is left out. */
    static void runOnce(String... lines) {
        checks++;
        faults.addAll(Run.faultsOfAnswers(String.join("\n", lines)));
    }

    static void due(String what, int got, int want) {
        checks++;
        if (got != want) {
            faults.add(what + " is " + got + ", due is " + want);
        }
    }

    /** The numbers just outside a range, and those far off. */
    static int[] beside(int least, int greatest) {
        return new int[] {MIN, least - 1, greatest + 1, MAX};
    }

    /** A line for each number, which stands for each %d of the call, all with one answer. */
    static String each(String call, String answer, int... numbers) {
        StringBuilder lines = new StringBuilder();
        for (int number : numbers) {
            lines.append(call.replace("%d", String.valueOf(number))).append(" = ").append(answer).append('\n');
        }
        return lines.toString();
    }

    static String bad(String call, int... numbers) {
        return each(call, "BAD", numbers);
    }

    static String repeat(int times, String one) {
        return one.repeat(times);
    }

    /** So many lodgers, all told alike, as a text in quotes. */
    static String lodgers(int count, String one) {
        return "\"" + String.join(",", java.util.Collections.nCopies(count, one)) + "\"";
    }

    /** The calls by which a sheet holds items. */
    static String filled(int sheet, int lane, long... items) {
        StringBuilder lines = new StringBuilder("sheet(" + sheet + ", " + lane + ", " + items.length + ")\n");
        for (int i = 0; i < items.length; i++) {
            lines.append("item(" + sheet + ", " + lane + ", " + i + ", " + items[i] + ")\n");
        }
        return lines.toString();
    }

    /** By one lodger who may begin anywhere a sheet's items are read: 0 .. 7; of others it is seen that they are others. */
    static String reads(int sheet, int lane, int... items) {
        StringBuilder lines = new StringBuilder("\"p1\"\n");
        for (int i = 0; i < items.length; i++) {
            boolean part = items[i] >= 0 && items[i] < 8;
            lines.append("lay(" + sheet + ", " + lane + ", " + i + ") = " + (part ? "1" : "NOT") + "\n");
            lines.append(part ? "told(0, 4) = " + items[i] + "\n" : "");
        }
        return lines + "lay(" + sheet + ", " + lane + ", " + items.length + ") = INDEX\n";
    }
}
