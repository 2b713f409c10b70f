import java.lang.reflect.InvocationTargetException;
import java.lang.reflect.Method;
import java.util.ArrayList;
import java.util.List;
import java.util.Map;
import java.util.Set;

/**
 * A run of calls on a new object, told in lines:
 * <pre>
 *   lodger(0, 1, 0) = 0            a call, with the answer that is due
 *   told(*, 4) = 3 NONE            told(0, 4), told(1, 4), with an answer each
 *   "p1,s2w07" = 2                 a text is typed and is a lodging (by default of as many as it tells)
 *   row 3 5 = 1                    a row is put on sheet 3 and laid; sheet 3 holds nothing then
 *   take()                         whatever it answers
 * </pre>
 * What stands behind two blanks and # is a remark. Each line that is refused, and each that only asks, is also left out: all must
 * then be as it is with it.
 */
final class Run {
    private static final int MOST_CALLS = 512;
    private static final Map<String, Long> NAMES = Map.ofEntries(Map.entry("BAD", -1L), Map.entry("NOT", -2L), Map.entry("FULL", -3L),
        Map.entry("NONE", -4L), Map.entry("NULL", -11L), Map.entry("CAST", -12L), Map.entry("INDEX", -13L), Map.entry("SIZE", -14L),
        Map.entry("MIN", (long) Integer.MIN_VALUE), Map.entry("MAX", (long) Integer.MAX_VALUE));
    private static final Set<String> ONLY_ASKS = Set.of("told", "sleeps", "count", "first", "ways", "fewest", "mended", "rents", "bed",
        "linen", "sick", "brought", "judged", "clears");

    private record Call(String told, Method method, Object[] arguments, Integer due) {
        int on(SixBeds x) {
            try {
                return (int) method.invoke(x, arguments);
            } catch (InvocationTargetException thrown) {
                throw new IllegalStateException(told + " threw " + thrown.getCause(), thrown);
            } catch (IllegalAccessException never) {
                throw new IllegalStateException(never);
            }
        }
    }

    private record Step(List<Call> calls, boolean leavesAll) { }

    private final List<Step> steps = new ArrayList<>();
    private final List<String> wrong = new ArrayList<>();
    private int answers = 0;

    /** What is wrong with the answers of a run. */
    static List<String> faults(String lines) {
        Run run = new Run(lines);
        run.play();
        for (int k = 0; k < run.steps.size(); k++) {
            if (run.steps.get(k).leavesAll()) {
                run.compareWithout(k);
            }
        }
        return run.wrong;
    }

    /** As faults, but no line is left out: for runs that need all the calls that an object has. */
    static List<String> faultsOfAnswers(String lines) {
        Run run = new Run(lines);
        run.play();
        return run.wrong;
    }

    private Run(String lines) {
        for (String line : lines.split("\n")) {
            String told = line.split("  #")[0].trim();
            if (!told.isEmpty()) {
                steps.add(step(told));
            }
        }
    }

    private void play() {
        SixBeds x = new SixBeds();
        int calls = 0;
        for (Step step : steps) {
            for (Call call : step.calls()) {
                int got = call.on(x);
                calls++;
                if (call.due() != null) {
                    answers++;
                    if (got != call.due()) {
                        wrong.add(call.told() + " is " + got + ", due is " + call.due());
                    }
                }
            }
        }
        if (answers == 0) {
            wrong.add("the run asks for no answer");
        }
        if (calls > MOST_CALLS) {
            wrong.add("the run has " + calls + " calls");
        }
    }

    private void compareWithout(int k) {
        SixBeds with = new SixBeds(), without = new SixBeds();
        int calls = 0;
        for (int j = 0; j <= k; j++) {
            for (Call call : steps.get(j).calls()) {
                call.on(with);
                calls++;
                if (j < k) {
                    call.on(without);
                }
            }
        }
        Dump one = new Dump(with), other = new Dump(without);
        String difference = one.differenceTo(other);
        if (difference != null) {
            List<Call> left = steps.get(k).calls();
            wrong.add(left.get(left.size() - 1).told() + " (line " + (k + 1) + ") is to change nothing, but with it " + difference);
        }
        if (calls + one.calls() > MOST_CALLS) {
            wrong.add("the run up to line " + (k + 1) + " and what is asked then have " + (calls + one.calls()) + " calls");
        }
    }

    private static Step step(String told) {
        if (told.startsWith("\"")) {
            return lodgingStep(told);
        }
        int is = told.lastIndexOf('=');
        String what = (is < 0 ? told : told.substring(0, is)).trim();
        String[] due = is < 0 ? new String[0] : told.substring(is + 1).trim().split(" +");
        if (what.startsWith("row ")) {
            return rowStep(what.substring(4).trim().split(" +"), due);
        }
        List<Call> calls = new ArrayList<>();
        if (what.contains("*")) {
            for (int k = 0; k < due.length; k++) {
                calls.add(call(what.replace("*", String.valueOf(k)), due[k]));
            }
        } else if (due.length <= 1) {
            calls.add(call(what, due.length == 0 ? null : due[0]));
        } else {
            throw new IllegalArgumentException("one call has one answer: " + told);
        }
        String name = calls.get(0).method().getName();
        Integer first = calls.get(0).due();
        return new Step(calls, ONLY_ASKS.contains(name) || first != null && first < 0 && !name.equals("lodging"));
    }

    private static Step lodgingStep(String told) {
        int end = told.lastIndexOf('"');
        String text = told.substring(1, end);
        String behind = told.substring(end + 1).trim();
        String due = behind.isEmpty() ? String.valueOf(text.split(",").length) : behind.substring(1).trim();
        List<Call> calls = new ArrayList<>();
        for (String line : typed(text).split("\n")) {
            if (!line.isEmpty()) {
                calls.add(call(line, null));
            }
        }
        calls.add(call("lodging()", due));
        return new Step(calls, number(due) < 0);
    }

    /** The calls, in lines, by which a text is typed. */
    static String typed(String text) {
        StringBuilder lines = new StringBuilder();
        for (int at = 0; at < text.length(); at += 8) {
            String some = text.substring(at, Math.min(text.length(), at + 8));
            long w = 0;
            for (char c : some.toCharArray()) {
                w = w << 8 | c;
            }
            lines.append("type(").append(w).append(", ").append(some.length()).append(")\n");
        }
        return lines.toString();
    }

    private static Step rowStep(String[] parts, String[] due) {
        List<Call> calls = new ArrayList<>();
        calls.add(call("sheet(3, 0, " + parts.length + ")", String.valueOf(parts.length)));
        for (int k = 0; k < parts.length; k++) {
            calls.add(call("item(3, 0, " + k + ", " + parts[k] + ")", "1"));
        }
        calls.add(call("lay(3, 0, 0)", due.length == 0 ? null : due[0]));
        calls.add(call("drop(3)", String.valueOf(parts.length)));
        return new Step(calls, false);
    }

    private static Call call(String told, String due) {
        int open = told.indexOf('(');
        String name = told.substring(0, open).trim();
        String inside = told.substring(open + 1, told.lastIndexOf(')')).trim();
        String[] given = inside.isEmpty() ? new String[0] : inside.split(" *, *");
        for (Method method : SixBeds.class.getDeclaredMethods()) {
            Class<?>[] types = method.getParameterTypes();
            if (method.getName().equals(name) && types.length == given.length) {
                Object[] arguments = new Object[given.length];
                for (int k = 0; k < given.length; k++) {
                    arguments[k] = argument(number(given[k]), types[k]);
                }
                return new Call(told, method, arguments, due == null ? null : (Integer) argument(number(due), int.class));
            }
        }
        throw new IllegalArgumentException("no such call: " + told);
    }

    private static Object argument(long number, Class<?> type) {
        if (type == long.class) {
            return number;
        }
        return Math.toIntExact(number);
    }

    private static long number(String told) {
        if (NAMES.containsKey(told)) {
            return NAMES.get(told);
        }
        if (told.startsWith("0x")) {
            return Long.parseUnsignedLong(told.substring(2), 16);
        }
        return told.startsWith("0b") ? Long.parseLong(told.substring(2), 2) : Long.parseLong(told);
    }
}
