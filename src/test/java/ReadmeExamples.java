import java.io.IOException;
import java.nio.file.Files;
import java.nio.file.Path;
import java.util.List;
import java.util.regex.Matcher;
import java.util.regex.Pattern;

/**
 * Turns the Java examples of README.md into a program that checks each answer which stands behind
 * a call: "dock.level();  // is 100", "dock.undo();  // throws IllegalStateException".
 */
public final class ReadmeExamples {

    private static final Pattern TOLD = Pattern.compile(
            "(?:int (\\w+) = )?([\\w.]+\\(.*\\)); *// (is|throws) (\\S+)(?: \\(.*\\))?");
    private static final Pattern CALL = Pattern.compile("^ *\\w+\\.\\w+\\(.*");

    private final StringBuilder program = new StringBuilder();
    private boolean isExample = false;
    private int checks = 0;

    private ReadmeExamples() {
    }

    /** Takes the page and the file that is to be written, which is named Readme.java. */
    public static void main(String[] arguments) throws IOException {
        ReadmeExamples examples = new ReadmeExamples();
        examples.read(Files.readAllLines(Path.of(arguments[0])));
        Files.writeString(Path.of(arguments[1]), examples.program);
    }

    private void read(List<String> page) {
        put("public final class Readme {");
        put("public static void main(String[] arguments) {");
        for (String row : page) {
            if (row.startsWith("```")) {
                isExample = row.equals("```java");
            } else if (isExample) {
                putExample(row);
            }
        }
        put("Check.that(\"README.md: examples\", Check.checks(), " + checks + ");");
        put("Check.printCounts();");
        put("if (Check.failures() > 0 || " + checks + " == 0) {");
        put("System.exit(1);");
        put("}");
        put("}");
        put("}");
    }

    private void put(String row) {
        program.append(row).append('\n');
    }

    private void putExample(String row) {
        Matcher told = TOLD.matcher(row);
        if (!told.matches()) {
            refuseUnread(row);
            put(row);
            return;
        }
        checks++;
        String call = told.group(2);
        String due = quoted((told.group(3).equals("is") ? "" : "throws.") + told.group(4));
        String what = quoted("README.md: " + row.strip());
        if (told.group(1) == null) {
            put("Check.that(" + what + ", \"\" + Check.outcome(() -> " + call + "), " + due + ");");
        } else {
            put("int " + told.group(1) + " = " + call + ";");
            put("Check.that(" + what + ", \"\" + " + told.group(1) + ", " + due + ");");
        }
    }

    /** A call at the margin without a readable answer would be an example that nothing checks. */
    private static void refuseUnread(String row) {
        boolean isAtMargin = !row.startsWith(" ");
        if (row.contains("// ") || isAtMargin && CALL.matcher(row).matches()) {
            throw new IllegalArgumentException("README.md: the answer is not readable: " + row);
        }
    }

    private static String quoted(String text) {
        return "\"" + text.replace("\\", "\\\\").replace("\"", "\\\"") + "\"";
    }
}
