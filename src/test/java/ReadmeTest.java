import java.lang.reflect.InvocationTargetException;
import java.lang.reflect.Method;
import java.lang.reflect.Modifier;
import java.nio.file.Files;
import java.nio.file.Path;
import java.util.Set;
import java.util.TreeSet;
import java.util.regex.Matcher;
import java.util.regex.Pattern;

/** README.md tells the truth: each of its calls is made, and each call of the face is told of. */
public final class ReadmeTest {
    private static final Pattern CALL = Pattern.compile("x\\.([a-z]+)\\(([^)]*)\\); *// (-?[0-9]+)( .*)?");
    private static final String TELLS = "static int tell(WriterPace x, String text) {";

    public static void main(String[] args) throws Exception {
        String page = Files.readString(Path.of("README.md"));
        makesItsCalls(page);
        tellsOfEachCall(page);
        tellsOfEachCode(page);
        Check.end();
    }

    private static void makesItsCalls(String page) throws IllegalAccessException, InvocationTargetException {
        int from = page.indexOf("```text\n") + "```text\n".length();
        String host = page.substring(from, page.indexOf("```", from));
        Check.holds("the host of the page", host.startsWith("host "));
        WriterPace x = new WriterPace();
        int calls = 0;
        boolean told = false;
        for (String line : page.split("\n")) {
            if (line.equals(TELLS)) {
                Check.due("tell of the text", Texts.tell(x, host), 8);
                told = true;
            }
            Matcher call = CALL.matcher(line);
            if (call.matches()) {
                Check.due(line, answer(x, call.group(1), call.group(2)), Long.parseLong(call.group(3)));
                calls++;
            } else {
                Check.holds("a call with its answer: " + line, !line.startsWith("x."));
            }
        }
        Check.holds("the text is told", told);
        Check.holds("some sixty calls, not " + calls, calls > 60);
    }

    private static long answer(WriterPace x, String name, String numbers)
            throws IllegalAccessException, InvocationTargetException {
        for (Method m : WriterPace.class.getMethods()) {
            if (m.getName().equals(name) && m.getDeclaringClass() == WriterPace.class) {
                return ((Number) m.invoke(x, values(m, numbers))).longValue();
            }
        }
        throw new IllegalArgumentException(name);
    }

    private static Object[] values(Method m, String numbers) {
        Class<?>[] types = m.getParameterTypes();
        String[] told = numbers.isBlank() ? new String[0] : numbers.split(", ");
        Object[] values = new Object[told.length];
        for (int i = 0; i < told.length; i++) {
            long v = Long.parseLong(told[i]);
            values[i] = types[i] == long.class ? (Object) v : (Object) (int) v;
        }
        return values;
    }

    private static void tellsOfEachCall(String page) {
        for (Method m : WriterPace.class.getDeclaredMethods()) {
            if (Modifier.isPublic(m.getModifiers())) {
                Check.holds("the page tells of " + m.getName(), page.contains("`" + m.getName() + "("));
            }
        }
    }

    /** Each code of the document has a row of its own in the table of codes. */
    private static void tellsOfEachCode(String page) {
        Set<String> rows = new TreeSet<>();
        Matcher row = Pattern.compile("\n\\| (-[0-9]+)( to (-[0-9]+))? \\|").matcher(page);
        while (row.find()) {
            rows.add(row.group(1));
        }
        Check.holds("the codes: " + rows,
                rows.equals(Set.of("-1", "-2", "-3", "-4", "-5", "-6", "-7", "-11", "-31")));
    }
}
