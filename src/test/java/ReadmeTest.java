import java.io.IOException;
import java.lang.reflect.InvocationTargetException;
import java.lang.reflect.Method;
import java.nio.charset.StandardCharsets;
import java.nio.file.Files;
import java.nio.file.Path;
import java.util.Set;
import java.util.TreeSet;
import java.util.regex.Matcher;
import java.util.regex.Pattern;

/** What README.md says behind its calls is what they answer, and it names every call of the class. */
public final class ReadmeTest {
    private static final Pattern TELL = Pattern.compile("tell\\(table, \"([^\"]*)\"\\); +// (\\S+?):? .*");
    private static final Pattern CALL = Pattern.compile("table\\.(\\w+)\\(([^)]*)\\); +// (throws )?(\\S+?):? .*");

    private ReadmeTest() { }

    private static String answer(TownTable table, String name, String args) {
        for (Method m : TownTable.class.getMethods()) {
            if (!m.getName().equals(name) || m.getDeclaringClass() != TownTable.class) {
                continue;
            }
            String[] told = args.isEmpty() ? new String[0] : args.split(", ");
            Object[] given = new Object[told.length];
            for (int i = 0; i < told.length; i++) {
                given[i] = told[i].matches("true|false") ? (Object) Boolean.valueOf(told[i]) : Integer.valueOf(told[i]);
            }
            try {
                return String.valueOf(m.invoke(table, given));
            } catch (InvocationTargetException e) {
                return e.getCause().getClass().getSimpleName();
            } catch (IllegalAccessException e) {
                return e.toString();
            }
        }
        return "no such call";
    }

    private static int calls(String readme) {
        TownTable table = new TownTable();
        int calls = 0;
        for (String line : readme.split("\n")) {
            Matcher tell = TELL.matcher(line);
            Matcher call = CALL.matcher(line);
            String want = "";
            String got = "";
            if (tell.matches()) {
                got = "" + Check.town(table, tell.group(1));
                want = tell.group(2);
            } else if (call.matches()) {
                got = answer(table, call.group(1), call.group(2));
                want = call.group(4);
            }
            Check.is("README.md: " + line + " answers " + got, got.equals(want), true);
            calls += want.isEmpty() ? 0 : 1;
        }
        return calls;
    }

    private static void names(String readme) {
        Set<String> left = new TreeSet<>();
        for (Method m : TownTable.class.getMethods()) {
            if (m.getDeclaringClass() == TownTable.class && !readme.contains("`" + m.getName() + "`")) {
                left.add(m.getName());
            }
        }
        Check.is("README.md doesn't name " + left, left.isEmpty(), true);
    }

    public static void main(String[] args) throws IOException {
        String readme = Files.readString(Path.of("README.md"), StandardCharsets.UTF_8);
        Check.is("README.md has calls with their answers", calls(readme) >= 10, true);
        names(readme);
        Check.end("ReadmeTest");
    }
}
