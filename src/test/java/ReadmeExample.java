import java.lang.reflect.Method;
import java.nio.file.Files;
import java.nio.file.Path;
import java.util.List;
import java.util.regex.Matcher;
import java.util.regex.Pattern;

/** Runs the example of README.md as it stands there: each call must answer what is told behind it. */
public final class ReadmeExample extends Checks {
    private static final Pattern PIECE = Pattern.compile("put\\(x, \"([^\"]*)\"\\)");
    private static final Pattern CALL =
            Pattern.compile("x\\.(\\w+)\\(([^)]*)\\);\\s*// (-?\\d+|true|false)(:.*|,.*)?");
    private static final int FEWEST_CALLS = 20;

    private static int calls = 0;

    // The page shows this method as it stands here.
    /** Feeds a piece of a text, filled up with blanks; answers how many bytes the tape has, or NONE. */
    static int put(WaterTurns x, String piece) {
        int many = WaterTurns.NONE;
        for (int at = 0; at < piece.length(); at += 20) {
            int[] ints = new int[5];
            for (int k = 0; k < 20; k++) {
                int b = at + k < piece.length() ? piece.charAt(at + k) : ' ';
                ints[k / 4] = ints[k / 4] << 8 | b;
            }
            many = x.feed(ints[0], ints[1], ints[2], ints[3], ints[4]);
        }
        return many;
    }

    private static void sameMethod(String page) throws Exception {
        String own = Files.readString(Path.of("src/test/java/ReadmeExample.java"));
        int from = page.indexOf("/** Feeds a piece");
        String shown = from < 0 ? "?" : page.substring(from, page.indexOf("```", from));
        due("put(..) stands on the page as in this test", own.contains(shown.indent(4)) ? 1 : 0, 1);
    }

    /** Pieces are fed, and the bytes that the tape has stand in their place. */
    private static String fed(String line) {
        Matcher m = PIECE.matcher(line);
        return m.find() ? m.replaceFirst(Integer.toString(put(x, m.group(1)))) : line;
    }

    private static Method named(String name) {
        for (Method m : WaterTurns.class.getMethods()) {
            if (m.getName().equals(name)) {
                return m;
            }
        }
        return null;
    }

    private static long answer(String name, String given) throws Exception {
        Method m = named(name);
        String[] words = given.isEmpty() ? new String[0] : given.split(", ");
        Object[] values = new Object[words.length];
        for (int k = 0; k < words.length; k++) {
            Class<?> type = m.getParameterTypes()[k];
            values[k] = type == boolean.class ? (Object) Boolean.valueOf(words[k])
                    : type == long.class ? (Object) Long.valueOf(words[k]) : (Object) Integer.valueOf(words[k]);
        }
        Object got = m.invoke(x, values);
        return got instanceof Boolean is ? (is ? 1 : 0) : ((Number) got).longValue();
    }

    private static void runLine(String line) throws Exception {
        String call = fed(line);
        if (!call.startsWith("x.")) {
            return;
        }
        Matcher m = CALL.matcher(call);
        if (!m.matches() || named(m.group(1)) == null) {
            due("a line that is no call with its answer: " + line, 0, 1);
            return;
        }
        calls++;
        String want = m.group(3);
        long value = want.equals("true") ? 1 : want.equals("false") ? 0 : Long.parseLong(want);
        due(line, answer(m.group(1), m.group(2)), value);
    }

    public static void main(String[] args) throws Exception {
        begin("README.md");
        sameMethod(Files.readString(Path.of("README.md")));
        List<String> lines = Files.readAllLines(Path.of("README.md"));
        int from = lines.indexOf("WaterTurns x = new WaterTurns();");
        for (int k = from + 1; from >= 0 && k < lines.size() && !lines.get(k).equals("```"); k++) {
            runLine(lines.get(k));
        }
        due("calls of the example, few", calls < FEWEST_CALLS ? 1 : 0, 0);
        finish("the example of README.md holds");
    }
}
