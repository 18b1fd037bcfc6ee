import java.lang.reflect.Method;
import java.lang.reflect.Modifier;
import java.net.URI;
import java.nio.file.Files;
import java.nio.file.Path;
import java.util.List;
import java.util.regex.Matcher;
import java.util.regex.Pattern;
import javax.tools.JavaCompiler;
import javax.tools.SimpleJavaFileObject;
import javax.tools.ToolProvider;

/** What README.md shows of the class's use: it compiles and answers as it says there; run from the project's folder. */
public final class ReadmeTest extends Checks {
    private static final Pattern BLOCK = Pattern.compile("(?s)```java\n(.*?)```");
    private static final Pattern CALL = Pattern.compile("town\\.(\\w+\\(.*?\\)); *(?:// (-?\\d+|[A-Z]+)\\b.*)?");
    private static final Pattern ROW = Pattern.compile("(?m)^\\| `(\\w+)\\(([^)]*)\\)` \\| \\S.* \\|$");

    /** The examples as a class of their own, in which each call is due to answer what stands behind it. */
    private static final class Examples extends SimpleJavaFileObject {
        private final StringBuilder code = new StringBuilder("class Examples extends Checks {\nstatic void run() {\n");

        Examples(String readme) {
            super(URI.create("string:///Examples.java"), Kind.SOURCE);
            Matcher blocks = BLOCK.matcher(readme);
            while (blocks.find()) {
                for (String line : blocks.group(1).split("\n")) {
                    add(line);
                }
            }
            code.append("}\n}\n");
        }

        private void add(String line) {
            Matcher call = CALL.matcher(line);
            if (!call.matches()) {
                code.append(line).append('\n');
            } else if (call.group(2) == null) {
                due("'" + line + "' says what it answers", 0, 1);
            } else {
                String words = "\"" + call.group(1) + "\"";
                code.append("due(" + words + ", town." + call.group(1) + ", " + call.group(2) + ");\n");
            }
        }

        @Override
        public CharSequence getCharContent(boolean ignored) {
            return code;
        }
    }

    public static void main(String[] args) throws Exception {
        String readme = Files.readString(Path.of("README.md"));
        says("README.md names the command that runs the tests");
        due("it stands there", readme.contains("```sh\n.ci/run\n```") ? 1 : 0, 1);
        due("it can be run", Files.isExecutable(Path.of(".ci/run")) ? 1 : 0, 1);
        says("README.md says how to use the class");
        calls(readme);
        says("what it shows of the class's use answers as it says there");
        examples(readme);
        end();
    }

    private static void calls(String readme) {
        int shown = 0;
        for (Method method : SquareLate.class.getDeclaredMethods()) {
            if (Modifier.isPublic(method.getModifiers())) {
                String name = method.getName();
                due("numbers that " + name + " takes in its row", numbersInRow(readme, name), method.getParameterCount());
                due(name + " is in an example", readme.contains("town." + name + "(") ? 1 : 0, 1);
                shown++;
            }
        }
        due("rows", ROW.matcher(readme).results().count(), shown);
    }

    /** -1, if the call has no row. */
    private static int numbersInRow(String readme, String name) {
        Matcher rows = ROW.matcher(readme);
        while (rows.find()) {
            if (rows.group(1).equals(name)) {
                return rows.group(2).isEmpty() ? 0 : rows.group(2).split(", ").length;
            }
        }
        return -1;
    }

    private static void examples(String readme) throws Exception {
        JavaCompiler compiler = ToolProvider.getSystemJavaCompiler();
        // Beside this test's own classes, so that the examples see SquareLate and Checks.
        String here = Path.of(ReadmeTest.class.getProtectionDomain().getCodeSource().getLocation().toURI()).toString();
        List<String> options = List.of("-cp", here, "-d", here);
        boolean compiles = compiler != null
            && compiler.getTask(null, null, null, options, null, List.of(new Examples(readme))).call();
        due("the examples compile", compiles ? 1 : 0, 1);
        if (compiles) {
            Class.forName("Examples").getDeclaredMethod("run").invoke(null);
        }
    }
}
