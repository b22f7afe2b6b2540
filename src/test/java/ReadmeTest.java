import java.io.IOException;
import java.lang.reflect.InvocationTargetException;
import java.lang.reflect.Method;
import java.lang.reflect.Modifier;
import java.nio.file.Files;
import java.nio.file.Path;
import java.util.ArrayList;
import java.util.HashMap;
import java.util.List;
import java.util.Map;
import java.util.Set;
import java.util.TreeSet;
import java.util.regex.Matcher;
import java.util.regex.Pattern;

/** Makes each call that README.md shows, and holds it to what is told behind it. */
public final class ReadmeTest {
    private static final String FIRST_LINE = "TermBench bench = new TermBench();";
    private static final Pattern CALL =
            Pattern.compile("(?:int (\\w) = )?bench\\.(\\w+)\\(([^)]*)\\); +// (throws \\w+|true|false|-?\\d+)(: .*)?");
    private static final Pattern SLOT = Pattern.compile("slot (\\d+) is ([a-z](\\([a-z(), ]*\\))?)(?![a-z(])");
    private static final String VARIABLES = "xyzuvw";

    private static final TermBench BENCH = new TermBench();
    private static final Map<String, Integer> SYMBOLS = new HashMap<>();
    private static final Map<String, Method> FACE = new HashMap<>();
    private static final Set<String> NOT_SHOWN = new TreeSet<>();
    private static int slotsTold = 0;

    public static void main(String[] args) throws IOException, IllegalAccessException {
        for (Method method : TermBench.class.getDeclaredMethods()) {
            if (Modifier.isPublic(method.getModifiers())) {
                FACE.put(method.getName(), method);
            }
        }
        NOT_SHOWN.addAll(FACE.keySet());
        List<String> lines = shownLines();
        Check.dueText("the first line that is shown", lines.isEmpty() ? "" : lines.get(0), FIRST_LINE);
        for (int i = 1; i < lines.size(); i++) {
            doAsShown(lines.get(i));
        }
        Check.dueText("calls that are not shown", NOT_SHOWN.toString(), "[]");
        Check.due("slots are told", slotsTold > 0, true);
        Check.end();
    }

    private static List<String> shownLines() throws IOException {
        List<String> shown = new ArrayList<>();
        boolean inside = false;
        for (String line : Files.readAllLines(Path.of("README.md"))) {
            if (line.startsWith("```")) {
                inside = line.equals("```java");
            } else if (inside && !line.isBlank()) {
                shown.add(line);
            }
        }
        return shown;
    }

    private static void doAsShown(String line) throws IllegalAccessException {
        Matcher shown = CALL.matcher(line);
        if (!shown.matches() || !FACE.containsKey(shown.group(2))) {
            Check.dueText("a line that is shown", line, "a call of the face with its answer");
            return;
        }
        Method method = FACE.get(shown.group(2));
        NOT_SHOWN.remove(method.getName());
        String answer = answerOf(method, shown.group(3).split(", "));
        Check.dueText(line, answer, shown.group(4));
        if (shown.group(1) != null) {
            SYMBOLS.put(shown.group(1), Integer.parseInt(answer));
        }
        Matcher slots = SLOT.matcher(shown.group(5) == null ? "" : shown.group(5));
        while (slots.find()) {
            slotsTold++;
            Check.dueTerm(line, BENCH, Integer.parseInt(slots.group(1)), codes(slots.group(2)));
        }
    }

    private static String answerOf(Method method, String[] arguments) throws IllegalAccessException {
        Object[] values = new Object[arguments.length];
        for (int i = 0; i < values.length; i++) {
            boolean isNumber = method.getParameterTypes()[i] == int.class;
            values[i] = isNumber ? (Object) number(arguments[i]) : (Object) Boolean.valueOf(arguments[i]);
        }
        try {
            return String.valueOf(method.invoke(BENCH, values));
        } catch (InvocationTargetException e) {
            return "throws " + e.getCause().getClass().getSimpleName();
        }
    }

    private static Integer number(String text) {
        return SYMBOLS.containsKey(text) ? SYMBOLS.get(text) : Integer.valueOf(text);
    }

    /** The codes stand in the text in their own order, with signs between them. */
    private static int[] codes(String text) {
        String names = text.replaceAll("[(), ]", "");
        int[] codes = new int[names.length()];
        for (int i = 0; i < codes.length; i++) {
            int variable = VARIABLES.indexOf(names.charAt(i));
            codes[i] = variable >= 0 ? -1 - variable : number(names.substring(i, i + 1));
        }
        return codes;
    }
}
