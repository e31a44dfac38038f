import java.lang.reflect.InvocationTargetException;
import java.lang.reflect.Method;
import java.util.ArrayList;
import java.util.HashMap;
import java.util.List;
import java.util.Map;
import java.util.Set;

/**
 * Makes runs of calls that are told as texts: "move 0 2 15 15 = 120" is a call and the answer that is due, "undo ! ISE" a
 * call that is to be refused. README.md tells the other steps. Behind each call that is refused, and behind each
 * question, everything that can be seen of the object must be as if the call had not been made.
 */
final class Runner {
    private static final int MOST_CALLS = 512;
    private static final Map<String, Method> FACE = new HashMap<>();
    private static final Map<String, String> NAMES = Map.of("IAE", IllegalArgumentException.class.getName(),
        "ISE", IllegalStateException.class.getName(), "IOOBE", IndexOutOfBoundsException.class.getName(), "NONE", "-9",
        "MIN", "-2147483648", "MAX", "2147483647", "LMIN", "-9223372036854775808", "LMAX", "9223372036854775807");
    private static final Set<String> BEGINNINGS = Set.of("new", "given", "lived");
    private static final Set<String> QUESTIONS = Set.of("errorPosition", "about", "ring", "corner", "point", "sees", "whyNot", "cut",
        "bestMove", "inRow", "cuttings", "runScript", "simulate");

    static {
        for (Method m : SquaredPaper.class.getDeclaredMethods()) {
            FACE.put(m.getName(), m);
        }
    }

    private final Check check;
    private final List<String> made = new ArrayList<>();
    private SquaredPaper paper = new SquaredPaper();
    private int calls;

    Runner(Check check) {
        this.check = check;
    }

    /** Makes the step and compares; the steps ahead of it, back to the last beginning, are its run. */
    void step(String step) {
        String[] parts = step.split(" [=!] ");
        String call = parts[0];
        String kind = call.split(" ")[0];
        if (kind.equals("error")) {
            begin();
            made.add("text " + call.substring(6));
            answerOf(made.get(0));
            call = "errorPosition";
        } else if (BEGINNINGS.contains(kind)) {
            begin();
        }
        String got = answerOf(call);
        String due = parts.length > 1 ? NAMES.getOrDefault(parts[1], parts[1]) : null;
        if (calls > MOST_CALLS) {
            check.report("the run of '" + step + "' has more than " + MOST_CALLS + " calls");
        }
        if (due == null ? got.startsWith("java") : !due.equals(got)) {
            check.report(call + " answered " + got + ", due is " + parts[parts.length - 1] + "; the run: " + made);
        }
        if (got.startsWith("java") || QUESTIONS.contains(call.split(" ")[0])) {
            sameBehind(call);
        }
        if (!kind.equals("figure")) {
            made.add(call);
        }
    }

    private void begin() {
        made.clear();
        paper = new SquaredPaper();
        calls = 0;
    }

    private void sameBehind(String call) {
        for (int probe = 0; probe < 5; probe++) {
            String without = new Runner(check).seen(made, "", probe);
            String with = new Runner(check).seen(made, call, probe);
            if (!without.equals(with)) {
                check.report(call + " changed " + without + " to " + with + "; the run: " + made);
            }
        }
    }

    /** A probe spoils what the others would see, so each is made with an object of its own. */
    private String seen(List<String> run, String call, int probe) {
        for (String step : run) {
            answerOf(step);
        }
        if (!call.isEmpty()) {
            answerOf(call);
        }
        switch (probe) {
            case 0: return "the figure " + figure();
            case 1: return "the past " + past();
            case 2: return "the text " + text();
            default: return "the slot " + answerOf("restore " + (probe - 3)) + " " + figure();
        }
    }

    private String figure() {
        StringBuilder out = new StringBuilder("F");
        int rings = number("about 0");
        for (int r = 0; r < rings; r++) {
            out.append(r > 0 ? "/" : "");
            int size = number("ring " + r + " 0");
            for (int k = 0; k < size; k++) {
                out.append((char) ('a' + number("corner " + r + " " + k + " 0")));
                out.append((char) ('a' + number("corner " + r + " " + k + " 1")));
            }
        }
        return out.toString();
    }

    /** Of a remembered figure only some numbers are asked, as a run has no more than 512 calls. */
    private String past() {
        StringBuilder out = new StringBuilder();
        for (String left = answerOf("undo"); !left.startsWith("java"); left = answerOf("undo")) {
            out.append(left).append(":");
            for (String call : new String[] {"about 1", "about 2", "corner 0 0 0", "corner 0 0 1", "corner 0 1 0", "corner 0 1 1"}) {
                out.append(answerOf(call)).append(" ");
            }
        }
        return out.toString();
    }

    private String text() {
        return answerOf("errorPosition") + " " + answerOf("load") + " " + figure() + " " + answerOf("clearText");
    }

    private int number(String call) {
        return Integer.parseInt(answerOf(call));
    }

    /** The answer, or the name of the exception that is thrown. */
    private String answerOf(String step) {
        String[] words = step.split(" ");
        switch (words[0]) {
            case "new":
                return "";
            case "figure":
                return figure();
            case "constant":
                return Integer.toString(SquaredPaper.NONE);
            case "text":
                answerOf("clearText");
                return written(words.length > 1 ? words[1] : "");
            case "given":
                answerOf("text " + words[1]);
                return answerOf("load");
            case "lived":
                answerOf("given " + words[1]);
                answerOf("mirror");
                answerOf("save 1");
                answerOf("mirror");
                return answerOf("shift 0 0");
            case "again":
                return again(Integer.parseInt(words[1]), step.substring(words[0].length() + words[1].length() + 2));
            default:
                return called(words);
        }
    }

    private String written(String signs) {
        String length = "0";
        for (int i = 0; i < signs.length(); i++) {
            length = answerOf("append " + (int) signs.charAt(i));
        }
        return length;
    }

    private String again(int times, String step) {
        String answer = "";
        for (int i = 0; i < times; i++) {
            answer = answerOf(step);
        }
        return answer;
    }

    private String called(String[] words) {
        Method m = FACE.get(words[0]);
        Class<?>[] types = m.getParameterTypes();
        Object[] arguments = new Object[types.length];
        for (int i = 0; i < types.length; i++) {
            String word = NAMES.getOrDefault(words[i + 1], words[i + 1]);
            arguments[i] = types[i] == boolean.class ? (Object) Boolean.valueOf(word)
                : types[i] == long.class ? (Object) Long.valueOf(word) : (Object) Integer.valueOf(word);
        }
        calls++;
        try {
            return String.valueOf(m.invoke(paper, arguments));
        } catch (InvocationTargetException e) {
            return e.getCause().getClass().getName();
        } catch (IllegalAccessException e) {
            throw new IllegalStateException(e);
        }
    }
}
