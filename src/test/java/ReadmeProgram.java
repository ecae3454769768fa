import java.io.IOException;
import java.lang.reflect.Method;
import java.lang.reflect.Modifier;
import java.nio.file.Files;
import java.nio.file.Path;
import java.util.List;
import java.util.Set;
import java.util.TreeSet;
import java.util.regex.Matcher;
import java.util.regex.Pattern;

/** Prints a program, ReadmeRuns, made of the Java on a page (its path is told): it compares each answer shown there. */
public final class ReadmeProgram {
    private static final String BEGIN = "```java", END = "```";
    /** A call, and behind it the answer that the page shows: a number, or a constant's name. */
    private static final Pattern SHOWN = Pattern.compile("x\\.(\\w+)(\\(.*\\)); +// (-?\\d+|[A-Z]+)(?:: .+)?");

    private final StringBuilder program = new StringBuilder();
    private final Set<String> notShown = publicCalls();

    public static void main(String[] args) throws IOException {
        ReadmeProgram made = new ReadmeProgram();
        made.write(Files.readAllLines(Path.of(args[0])));
        System.out.print(made.program);
    }

    private static Set<String> publicCalls() {
        Set<String> names = new TreeSet<>();
        for (Method m : ElbowRanks.class.getDeclaredMethods()) {
            if (Modifier.isPublic(m.getModifiers())) {
                names.add(m.getName());
            }
        }
        return names;
    }

    private void write(List<String> page) {
        program.append("public final class ReadmeRuns {\n    public static void main(String[] args) {\n");
        program.append("Checks.part(\"README.md\");\n");
        boolean isJava = false;
        for (String line : page) {
            if (line.equals(BEGIN) || line.equals(END)) {
                isJava = line.equals(BEGIN);
            } else if (isJava) {
                writeLine(line);
            }
        }
        program.append("Checks.end();\n    }\n}\n");
        if (!notShown.isEmpty()) {
            throw new IllegalStateException("calls that the page does not show: " + notShown);
        }
    }

    private void writeLine(String line) {
        Matcher shown = SHOWN.matcher(line);
        if (shown.matches()) {
            String call = shown.group(1) + shown.group(2);
            boolean isNumber = !Character.isLetter(shown.group(3).charAt(0));
            program.append("Checks.due(\"").append(call.replace("\\", "\\\\").replace("\"", "\\\"")).append("\", x.")
                    .append(call).append(", ").append(isNumber ? "" : "ElbowRanks.").append(shown.group(3))
                    .append(");\n");
            notShown.remove(shown.group(1));
        } else if (line.contains("//")) {
            throw new IllegalStateException("what answer is shown here? " + line);
        } else {
            program.append(line).append('\n');
        }
    }
}
