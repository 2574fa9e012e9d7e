import java.io.ByteArrayOutputStream;
import java.io.IOException;
import java.io.PrintStream;
import java.lang.reflect.Field;
import java.lang.reflect.Modifier;
import java.nio.charset.StandardCharsets;
import java.nio.file.Files;
import java.nio.file.Path;
import java.util.ArrayList;
import java.util.LinkedHashMap;
import java.util.List;
import java.util.Map;
import java.util.TreeSet;
import java.util.regex.Matcher;
import java.util.regex.Pattern;

/** What README.md tells: the example answers as it says, and the tables name all calls, constants and errors. */
public final class ReadmeTest {
    private static final Path README = Path.of("README.md");
    private static final Path EXAMPLE = Path.of("src/test/java/Example.java");
    private static final Path DOCUMENT = Path.of("../shared/DOC.md");
    private static final Pattern ERROR = Pattern.compile("NO_SUCH|BAD_VALUE|BAD_TEXT|TOO_MANY|NOT_POSSIBLE");

    private ReadmeTest() {
    }

    public static void main(String[] args) throws IOException {
        String readme = Files.readString(README);
        example(readme, Files.readString(EXAMPLE).trim());
        constants(readme);
        tests(readme);
        if (Files.exists(DOCUMENT)) {
            Due.due("calls and their errors", errorsToldBy(readme).toString(),
                    errorsDue(Files.readString(DOCUMENT)).toString());
        }
        Due.end("ReadmeTest");
    }

    private static void example(String readme, String example) {
        Due.holds(EXAMPLE + " stands in " + README, readme.contains("```java\n" + example + "\n```"));
        String[] printed = printedByExample().trim().split("\\R");
        List<String> lines = example.lines().filter(line -> line.contains("println(")).toList();
        Due.due("how many lines print", printed.length, lines.size());
        for (int i = 0; i < Math.min(printed.length, lines.size()); i++) {
            String line = lines.get(i).trim();
            Matcher told = Pattern.compile("; +// (-?\\d+)(: .+)?").matcher(line);
            Due.due(line, printed[i], told.find() ? told.group(1) : "nothing told");
        }
    }

    private static String printedByExample() {
        PrintStream before = System.out;
        ByteArrayOutputStream printed = new ByteArrayOutputStream();
        System.setOut(new PrintStream(printed, true, StandardCharsets.UTF_8));
        try {
            Example.main(new String[0]);
        } finally {
            System.setOut(before);
        }
        return printed.toString(StandardCharsets.UTF_8);
    }

    private static void constants(String readme) {
        Map<String, String> told = new LinkedHashMap<>();
        Matcher row = Pattern.compile("(?m)^\\| (-?\\d) \\| `(\\w+)` \\| .+ \\|$").matcher(readme);
        while (row.find()) {
            told.put(row.group(2), row.group(1));
        }
        Map<String, String> due = new LinkedHashMap<>();
        for (Field field : ClauseWatch.class.getDeclaredFields()) {
            if (Modifier.isPublic(field.getModifiers())) {
                due.put(field.getName(), valueOf(field));
            }
        }
        Due.due("constants", told.toString(), due.toString());
    }

    private static String valueOf(Field field) {
        try {
            return String.valueOf(field.getInt(null));
        } catch (IllegalAccessException e) {
            return e.getMessage();
        }
    }

    private static void tests(String readme) throws IOException {
        TreeSet<String> told = new TreeSet<>();
        Matcher row = Pattern.compile("(?m)^\\| `(\\w+Test)` \\| .+ \\|$").matcher(readme);
        while (row.find()) {
            told.add(row.group(1));
        }
        TreeSet<String> due = new TreeSet<>();
        try (var files = Files.list(EXAMPLE.getParent())) {
            files.map(file -> file.getFileName().toString()).filter(name -> name.endsWith("Test.java"))
                    .forEach(name -> due.add(name.replace(".java", "")));
        }
        Due.due("tests", told.toString(), due.toString());
        Due.holds("the one command that runs all tests is told", readme.contains("```\n.ci/run\n```"));
    }

    /** By each call with its parameters, the errors in the order in which they are told. */
    private static Map<String, List<String>> errorsToldBy(String readme) {
        Map<String, List<String>> told = new LinkedHashMap<>();
        Matcher row = Pattern.compile("(?m)^\\| `(\\w+\\([^)]*\\))` \\| .+ \\| ([^|]+) \\|$").matcher(readme);
        while (row.find()) {
            told.put(row.group(1), errorsIn(row.group(2)));
        }
        return told;
    }

    /** A promise's call stands at the beginning of a line, and its errors in the line that begins with "Returns". */
    private static Map<String, List<String>> errorsDue(String document) {
        Map<String, List<String>> due = new LinkedHashMap<>();
        String call = "";
        for (String line : document.split("\n")) {
            Matcher heading = Pattern.compile("^`int (\\w+\\([^)]*\\))`: ").matcher(line);
            if (heading.find()) {
                call = heading.group(1).replaceAll("\\b(int|long) ", "");
                due.put(call, new ArrayList<>());
            }
            if (line.contains("Returns ") && due.containsKey(call)) {
                due.put(call, errorsIn(line));
            }
        }
        return due;
    }

    private static List<String> errorsIn(String text) {
        List<String> errors = new ArrayList<>();
        Matcher error = ERROR.matcher(text);
        while (error.find()) {
            errors.add(error.group());
        }
        return errors;
    }
}
