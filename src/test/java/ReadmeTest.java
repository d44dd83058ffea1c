import java.lang.reflect.Method;
import java.lang.reflect.Modifier;
import java.nio.file.Files;
import java.nio.file.Path;
import java.util.ArrayList;
import java.util.List;
import java.util.regex.Matcher;
import java.util.regex.Pattern;

/** The examples of README.md answer what stands behind them, and each call is named. */
public final class ReadmeTest extends Checks {
    private static final String NEW = "RowPivots x = new RowPivots();";
    private static final Pattern CALL =
        Pattern.compile("x\\.(\\w+)\\(([^)]*)\\);\\s*// (-?\\d+|true|false)\\b.*");
    private static RowPivots x;
    private static int calls;

    private static Method named(String name) {
        for (Method method : RowPivots.class.getDeclaredMethods()) {
            if (method.getName().equals(name) && Modifier.isPublic(method.getModifiers())) {
                return method;
            }
        }
        throw new IllegalStateException("README.md calls " + name);
    }

    private static Object[] given(String told) {
        List<Object> all = new ArrayList<>();
        for (String one : told.isEmpty() ? new String[0] : told.split(", ")) {
            boolean isBoolean = one.equals("true") || one.equals("false");
            all.add(isBoolean ? (Object) one.equals("true") : (Object) Integer.decode(one));
        }
        return all.toArray();
    }

    private static void runLine(String line) throws Exception {
        if (line.startsWith(NEW)) {
            x = new RowPivots();
            return;
        }
        Matcher call = CALL.matcher(line);
        due("a call with its answer behind it: " + line, call.matches(), true);
        if (call.matches()) {
            Object answer = named(call.group(1)).invoke(x, given(call.group(2)));
            due(line + " answered " + answer, answer.toString().equals(call.group(3)), true);
            calls++;
        }
    }

    private static void runExamples(List<String> lines) throws Exception {
        boolean isExample = false;
        for (int k = 0; k < lines.size(); k++) {
            String line = lines.get(k);
            if (line.startsWith("```")) {
                isExample = line.equals("```java") && lines.get(k + 1).startsWith(NEW);
            } else if (isExample) {
                runLine(line);
            }
        }
    }

    public static void main(String[] args) throws Exception {
        name("README.md");
        List<String> lines = Files.readAllLines(Path.of("README.md"));
        runExamples(lines);
        due("calls in examples", calls > 30, true);
        String all = String.join("\n", lines);
        for (String words : new String[] {".ci/run", "javac ", "java -cp"}) {
            due("it says " + words, all.contains(words), true);
        }
        for (Method method : RowPivots.class.getDeclaredMethods()) {
            boolean isNamed = all.contains("`" + method.getName() + "`");
            due("it names " + method, isNamed || !Modifier.isPublic(method.getModifiers()), true);
        }
        System.out.println(calls + " calls of README.md");
        finish();
    }
}
