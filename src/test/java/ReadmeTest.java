import java.io.IOException;
import java.lang.reflect.Method;
import java.nio.file.DirectoryStream;
import java.nio.file.Files;
import java.nio.file.Path;
import java.util.Map;
import java.util.Set;
import java.util.TreeMap;
import java.util.TreeSet;
import java.util.regex.Matcher;
import java.util.regex.Pattern;

/** README.md says what is so: its example, its tables of calls and refusals, and its table of tests. */
final class ReadmeTest {
    private static final Path README = Path.of("README.md");
    private static final Path DOCUMENT = Path.of("../shared/DOC.md");
    private static final Path TESTS = Path.of("src/test/java");
    private static final Pattern EXAMPLE = Pattern.compile("(?m)^plans\\.(\\w+)\\((.*?)\\);\\s*// (-?\\d+)(:.*)?$");
    private static final Pattern CALL_ROW = Pattern.compile("(?m)^\\| `((\\w+)\\([^)]*\\))` \\|.*\\| ([^|]*) \\|$");
    private static final Pattern TEST_ROW = Pattern.compile("(?m)^\\| `(\\w+Test)` \\|");
    private static final Pattern PROMISE = Pattern.compile("(?m)^`int (\\w+)\\(([^)]*)\\)`: (.*)$");

    private static int wrong = 0;
    private static int asked = 0;

    public static void main(String[] args) throws IOException {
        String page = Files.readString(README);
        example(page);
        calls(page);
        tests(page);
        check(Files.isExecutable(Path.of(".ci/run")), "there is no .ci/run to run the tests");
        System.out.println("ReadmeTest: " + asked + " sayings, " + wrong + " not so");
        if (wrong != 0) {
            System.exit(1);
        }
    }

    private static void check(boolean holds, String otherwise) {
        asked++;
        if (!holds) {
            wrong++;
            System.out.println("ReadmeTest: " + otherwise);
        }
    }

    /** Every line of the example is played on one object; none may be passed over for its form. */
    private static void example(String page) {
        String code = between(page, "```java\n", "```");
        Plans plans = new Plans();
        Matcher line = EXAMPLE.matcher(code);
        int lines = 0;
        while (line.find()) {
            lines++;
            String call = line.group(1) + "(" + plain(line.group(2)) + ")";
            int got = plans.ask(call);
            check(got == Integer.parseInt(line.group(3)), call + " answered " + got + ", the page says " + line.group(3));
        }
        int written = code.split("(?m)^plans\\.", -1).length - 1;
        check(lines == written && lines > 0, "only " + lines + " of " + written + " lines of the example tell an answer");
    }

    private static String between(String text, String from, String to) {
        int start = text.indexOf(from);
        int end = start < 0 ? -1 : text.indexOf(to, start + from.length());
        check(end >= 0, "there is nothing between " + from.trim() + " and " + to);
        return end < 0 ? "" : text.substring(start + from.length(), end);
    }

    /** The arguments as plain numbers: sets may be written as 0b1010 or 1 << 7. */
    private static String plain(String arguments) {
        StringBuilder all = new StringBuilder();
        for (String word : arguments.isBlank() ? new String[0] : arguments.split(",")) {
            String one = word.trim();
            if (one.startsWith("0b")) {
                one = String.valueOf(Integer.parseInt(one.substring(2), 2));
            } else if (one.startsWith("1 << ")) {
                one = String.valueOf(1 << Integer.parseInt(one.substring(5)));
            }
            all.append(all.length() == 0 ? "" : ", ").append(one);
        }
        return all.toString();
    }

    /** The table has a row for each call of the class and no other, with the document's names and refusals. */
    private static void calls(String page) throws IOException {
        Map<String, String> refusals = new TreeMap<>();
        Map<String, String> heads = new TreeMap<>();
        Matcher row = CALL_ROW.matcher(between(page, "### The calls\n", "###"));
        while (row.find()) {
            heads.put(row.group(2), row.group(1));
            refusals.put(row.group(2), row.group(3).replaceAll("[`,]", ""));
        }
        Set<String> face = new TreeSet<>();
        for (Method method : FloorPlans.class.getMethods()) {
            if (method.getDeclaringClass() == FloorPlans.class) {
                face.add(method.getName());
            }
        }
        check(heads.keySet().equals(face), "the table of calls has " + heads.keySet() + ", the class has " + face);
        if (!Files.exists(DOCUMENT)) {
            return;
        }
        Matcher promise = PROMISE.matcher(Files.readString(DOCUMENT));
        while (promise.find()) {
            String name = promise.group(1);
            String head = name + "(" + promise.group(2).replaceAll("(int|boolean) ", "") + ")";
            check(head.equals(heads.get(name)), "the table has " + heads.get(name) + ", the document " + head);
            String due = refusalsIn(promise.group(3));
            check(due.equals(refusals.get(name)), name + " is refused with " + refusals.get(name) + ", the document has " + due);
        }
    }

    /** The refusals that a promise tells, in its order; what stands in brackets explains them. */
    private static String refusalsIn(String promise) {
        String bare = promise.replace("REFUSALS -1 .. -6", "").replaceAll("\\([^)]*\\)", "");
        StringBuilder all = new StringBuilder();
        Matcher as = Pattern.compile("Refused (as \\w+), (then)").matcher(bare);
        if (as.find()) {
            all.append(as.group(1)).append(' ').append(as.group(2));
        }
        Matcher number = Pattern.compile("-[1-6]\\b").matcher(bare);
        while (number.find()) {
            all.append(all.length() == 0 ? "" : " ").append(number.group());
        }
        return all.length() == 0 ? "never" : all.toString();
    }

    private static void tests(String page) throws IOException {
        Set<String> named = new TreeSet<>();
        Matcher row = TEST_ROW.matcher(page);
        while (row.find()) {
            named.add(row.group(1));
        }
        Set<String> there = new TreeSet<>();
        try (DirectoryStream<Path> files = Files.newDirectoryStream(TESTS, "*Test.java")) {
            for (Path file : files) {
                there.add(file.getFileName().toString().replace(".java", ""));
            }
        }
        check(named.equals(there), "the table of tests has " + named + ", there are " + there);
    }
}
