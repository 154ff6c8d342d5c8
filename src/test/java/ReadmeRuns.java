import java.io.IOException;
import java.lang.reflect.Method;
import java.nio.charset.StandardCharsets;
import java.nio.file.Files;
import java.nio.file.Path;
import java.util.regex.Matcher;
import java.util.regex.Pattern;

/** The run of calls that README.md shows: each answer told there is the one that is given. */
public final class ReadmeRuns extends Checks {
    private static final Pattern FED = Pattern.compile("feed\\(w, \"(.*)\"\\);");
    private static final Pattern ASKED = Pattern.compile("w\\.(\\w+)\\(([-\\d, ]*)\\); +// (true|false|-?\\d+)\\b.*");

    public static void main(String[] args) throws IOException, ReflectiveOperationException {
        promise = "README.md";
        WornWords w = null;
        int asked = 0;
        for (String line : Files.readAllLines(Path.of("README.md"), StandardCharsets.UTF_8)) {
            Matcher fed = FED.matcher(line);
            Matcher call = ASKED.matcher(line);
            if (line.equals("WornWords w = new WornWords();")) {
                w = new WornWords();
            } else if (fed.matches()) {
                feed(w, fed.group(1));
            } else if (call.matches()) {
                due(call.group(1) + "(" + call.group(2) + ")", answer(w, call.group(1), call.group(2)), want(call.group(3)));
                asked++;
            } else if (line.startsWith("w.")) {
                complain("a call that tells no answer: " + line);
            }
        }
        due("calls shown", asked > 20, true);
        end("README.md tells what is answered");
    }

    private static long want(String told) {
        return told.equals("true") ? 1 : told.equals("false") ? 0 : Long.parseLong(told);
    }

    private static long answer(WornWords w, String name, String numbers) throws ReflectiveOperationException {
        String[] each = numbers.isEmpty() ? new String[0] : numbers.split(", ");
        for (Method method : WornWords.class.getDeclaredMethods()) {
            if (method.getName().equals(name) && method.getParameterCount() == each.length) {
                Object[] given = new Object[each.length];
                for (int k = 0; k < each.length; k++) {
                    boolean isLong = method.getParameterTypes()[k] == long.class;
                    given[k] = isLong ? (Object) Long.valueOf(each[k]) : (Object) Integer.valueOf(each[k]);
                }
                Object got = method.invoke(w, given);
                return got instanceof Boolean flag ? (flag ? 1 : 0) : ((Number) got).longValue();
            }
        }
        complain("no call " + name + " of " + each.length + " numbers");
        return Long.MIN_VALUE;
    }
}
