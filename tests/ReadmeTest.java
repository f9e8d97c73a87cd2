import java.io.IOException;
import java.lang.reflect.Method;
import java.nio.file.DirectoryStream;
import java.nio.file.Files;
import java.nio.file.Path;
import java.util.regex.Matcher;
import java.util.regex.Pattern;

/** README.md: the calls that it shows answer what stands behind them, and it names every call and every test. */
public final class ReadmeTest {
    private static final Pattern SHOWN = Pattern.compile("table\\.(.+\\)); +// (-?\\d+).*");
    private static final Pattern NUMBER = Pattern.compile("-?\\d+"), SIGN = Pattern.compile("'(.)'");
    private static final Pattern CALL = Pattern.compile("(?:table\\.)?(\\w+)\\((.*)\\)");
    /** A comma between arguments: not one within the brackets of a call. */
    private static final String COMMA = ", (?![^(]*\\))";

    public static void main(String[] args) throws Exception {
        String readme = Files.readString(Path.of("README.md"));
        EndgameTable table = new EndgameTable();
        for (String line : readme.split("\n")) {
            Matcher shown = SHOWN.matcher(line);
            if (shown.matches()) Check.same(line, answer(table, shown.group(1)), Integer.parseInt(shown.group(2)));
        }
        namesCalls(readme);
        namesTests(readme);
        Check.end("ReadmeTest");
    }

    private static int answer(EndgameTable table, String term) throws Exception {
        if (NUMBER.matcher(term).matches()) return Integer.parseInt(term);
        Matcher sign = SIGN.matcher(term);
        if (sign.matches()) return sign.group(1).charAt(0);
        Matcher call = CALL.matcher(term);
        if (!call.matches()) throw new IllegalStateException("no call: " + term);
        String[] terms = call.group(2).isEmpty() ? new String[0] : call.group(2).split(COMMA);
        Object[] given = new Object[terms.length];
        for (int i = 0; i < terms.length; i++) given[i] = answer(table, terms[i]);
        for (Method method : EndgameTable.class.getMethods()) {
            if (method.getName().equals(call.group(1)) && method.getParameterCount() == given.length) {
                return (Integer) method.invoke(table, given);
            }
        }
        throw new IllegalStateException("no such call: " + term);
    }

    private static void namesCalls(String readme) {
        for (Method method : EndgameTable.class.getMethods()) {
            if (method.getDeclaringClass() != EndgameTable.class) continue;
            Check.holds("the call " + method.getName() + " stands there", readme.contains("`" + method.getName() + "`"));
        }
    }

    private static void namesTests(String readme) throws IOException {
        try (DirectoryStream<Path> tests = Files.newDirectoryStream(Path.of("tests"), "*Test.java")) {
            for (Path test : tests) {
                String name = test.getFileName().toString().replace(".java", "");
                Check.holds(name + " stands there", readme.contains("`" + name + "`"));
            }
        }
    }
}
