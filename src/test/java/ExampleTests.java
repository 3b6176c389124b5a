import java.io.IOException;
import java.lang.reflect.InvocationTargetException;
import java.lang.reflect.Method;
import java.util.regex.Matcher;
import java.util.regex.Pattern;

/** The three examples of the document, call by call, each on a new object. */
public final class ExampleTests extends TestBase {
    private static final Pattern STEP = Pattern.compile("(\\w+)\\(([^)]*)\\) = (-?\\d+)");
    private static final int[] CALLS = {16, 15, 16};

    // As the document writes them, without their titles.
    private static final String[] EXAMPLES = {
        "letter(115) = 1; letter(102) = 2; desk() = 2; letter(50) = 1; letter(120) = 2; letter(94) = 3; letter(50) = 4; "
                + "letter(45) = 5; letter(50) = 6; put(0) = 2; slot(0, 2) = 1002; slot(0, 4) = 2; "
                + "factor(0, 1, 2) = 100001; parts(0, 3, 1) = 11; add(0, 0, 1) = 2; text(1, 1) = 94.",
        "letter(116) = 1; desk() = 1; letter(120) = 1; letter(94) = 2; letter(50) = 3; letter(43) = 4; letter(51) = 5; "
                + "letter(120) = 6; put(0) = 1; number(0, 1) = 1003; slope(0, 0) = 0; slope(0, 0) = -103; "
                + "degrees(0) = 1; see(0, 1, true) = 1; slot(0, 6) = 4.",
        "letter(109) = 1; desk() = 1; letter(51) = 1; letter(120) = 2; letter(94) = 3; letter(50) = 4; letter(43) = 5; "
                + "letter(49) = 6; letter(120) = 7; fault() = 6; put(0) = -103; blank() = 7; slot(0, 7) = 0; "
                + "drawn(1, 7, 0) = 1; as(0, 1) = -1; restore() = -103.",
    };

    public static void main(String[] args) throws IOException, ReflectiveOperationException {
        DocWords document = new DocWords();
        for (int i = 0; i < EXAMPLES.length; i++) {
            section = "example " + (i + 1);
            document.quote(0, EXAMPLES[i]);
            due(run(EXAMPLES[i]), CALLS[i], "the number of calls");
        }
        section = "the document's words";
        if (document.isThere()) {
            due(document.wrongQuotes().toString(), "[]", "examples that do not stand in the document");
        } else {
            System.out.println("ExampleTests: the document is not there, its words are not compared");
        }
        end("ExampleTests");
    }

    /** Makes the calls of an example on a new object, and returns how many there were. */
    private static int run(String example) throws ReflectiveOperationException {
        PolyDesk x = new PolyDesk();
        int calls = 0;
        for (String step : example.replaceAll("\\.$", "").split("; ")) {
            Matcher parts = STEP.matcher(step);
            if (parts.matches()) {
                due(answer(x, parts.group(1), parts.group(2)), Long.parseLong(parts.group(3)), step);
                calls++;
            }
        }
        return calls;
    }

    private static long answer(PolyDesk x, String name, String written) throws ReflectiveOperationException {
        String[] words = written.isEmpty() ? new String[0] : written.split(", ");
        Object[] values = new Object[words.length];
        for (int i = 0; i < words.length; i++) {
            boolean isTruth = words[i].equals("true") || words[i].equals("false");
            values[i] = isTruth ? (Object) Boolean.valueOf(words[i]) : (Object) Integer.valueOf(words[i]);
        }
        for (Method method : PolyDesk.class.getMethods()) {
            if (method.getName().equals(name) && method.getParameterCount() == values.length) {
                return call(x, method, values);
            }
        }
        throw new NoSuchMethodException(name);
    }

    private static long call(PolyDesk x, Method method, Object[] values) throws ReflectiveOperationException {
        try {
            return ((Number) method.invoke(x, values)).longValue();
        } catch (InvocationTargetException e) {
            due(method.getName() + " threw " + e.getCause(), "an answer", "the call");
            return Long.MIN_VALUE;
        }
    }
}
