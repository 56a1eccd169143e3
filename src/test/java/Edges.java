import java.io.IOException;
import java.nio.file.Files;
import java.nio.file.Path;
import java.util.ArrayList;
import java.util.BitSet;
import java.util.LinkedHashMap;
import java.util.List;
import java.util.Map;

/**
 * Asks the boundary cases, sentence by sentence. Each test names the document's section and the words that it is
 * about; words that do not stand there, and words of the document that no test is about, are told as wrong.
 */
final class Edges {
    private static final Path DOCUMENT = Path.of("../shared/DOC.md");

    /** A house in which a bit of everything has been told, so that a change of anything can be seen. */
    static final String TOLD = "floor(1, 0, 60); floor(2, 1, 7); floor(3, 2, 5); floor(4, 3, 7);"
        + "team(12, 0, 1, 8); team(9, 2, 3, 7); team(30, 0, 0, 9); team(5, 1, 2, 6);"
        + "sit(0, 1); sit(1, 2); sit(2, 3); two(0, 1, 0, 7); two(1, 2, 0, 5); two(0, 2, 1, 1); two(0, 1, 2, 1);"
        + "lift(3); target(0, 2); target(1, 1); person(0, 1, 64); person(0, 6, 32); person(1, 0, 16);"
        + "grow(0, 3, 100); grow(1, 0, 7); turn(2); fix(2, true)";

    private final Map<String, String> texts = new LinkedHashMap<>();
    private final Map<String, BitSet> asked = new LinkedHashMap<>();
    private String sentence = "";
    private int sentences = 0;
    private int answers = 0;
    private int wrong = 0;

    Edges() throws IOException {
        if (!Files.exists(DOCUMENT)) {
            System.out.println("EdgesTest: there is no " + DOCUMENT + ", so the words of the tests are not compared with it");
            return;
        }
        String document = Files.readString(DOCUMENT);
        for (String part : document.split("(?m)^## ")) {
            int end = part.indexOf('\n');
            String title = end < 0 ? part : part.substring(0, end);
            if (title.startsWith("Terms") || title.startsWith("What it is") || title.startsWith("Promise ")) {
                texts.put(title.replaceAll(":.*", ""), bare(part.substring(end)));
            }
        }
        for (String section : texts.keySet()) {
            asked.put(section, new BitSet());
        }
    }

    /** The words alone: without a promise's signature, without fences, with single spaces. */
    private static String bare(String text) {
        return text.replaceAll("(?m)^```.*$", " ").replaceAll("(?m)^`[^`\n]*`: ", " ").replaceAll("\\s+", " ").trim();
    }

    /** What is asked from here on is about these words of a section. */
    void says(String section, String words) {
        sentences++;
        sentence = section + ", '" + words + "'";
        if (texts.isEmpty()) {
            return;
        }
        String text = texts.get(section);
        int at = text == null ? -1 : text.indexOf(words);
        if (at < 0) {
            tellWrong("does not stand in the document");
            return;
        }
        asked.get(section).set(at, at + words.length());
    }

    /** All words of the document's terms and promises must have been asked about, or name no boundary. */
    void checkThatAllWasAsked() {
        for (String section : texts.keySet()) {
            String text = texts.get(section);
            BitSet seen = asked.get(section);
            for (int from = seen.nextClearBit(0); from < text.length(); from = seen.nextClearBit(from)) {
                int to = seen.nextSetBit(from);
                to = to < 0 ? text.length() : to;
                String rest = text.substring(from, to);
                if (rest.matches("(?s).*[A-Za-z0-9].*")) {
                    sentence = section;
                    tellWrong("no test is about '" + rest.trim() + "'");
                }
                from = to;
            }
        }
    }

    void end() {
        System.out.println("EdgesTest: " + sentences + " sentences, " + answers + " answers, " + wrong + " not as due");
        if (wrong != 0) {
            System.exit(1);
        }
    }

    private void tellWrong(String what) {
        wrong++;
        System.out.println("EdgesTest: " + sentence + ": " + what);
    }

    void is(Plans plans, String call, int want) {
        same(call, plans.ask(call), want);
    }

    private void same(String call, int got, int want) {
        answers++;
        if (got != want) {
            tellWrong(call + " answered " + got + ", due is " + want);
        }
    }

    /** A new object on which these rows of calls, parted by semicolons, have been made; "call = 3" is asked for 3. */
    Plans row(String... rows) {
        Plans plans = new Plans();
        more(plans, rows);
        return plans;
    }

    void more(Plans plans, String... rows) {
        for (String row : rows) {
            for (String part : row.split(";")) {
                int equals = part.indexOf('=');
                if (equals >= 0) {
                    is(plans, part.substring(0, equals).trim(), Integer.parseInt(part.substring(equals + 1).trim()));
                } else if (!part.isBlank()) {
                    plans.ask(part.trim());
                }
            }
        }
    }

    /** The row with # as each number. */
    static String each(int from, int to, String row) {
        StringBuilder all = new StringBuilder();
        for (int i = from; i <= to; i++) {
            all.append(row.replace("#", String.valueOf(i))).append(';');
        }
        return all.toString();
    }

    /**
     * Each call is refused by the number in such a house, is counted once under it alone, and changes nothing else:
     * all that can be read is compared with a house of which the call was never asked.
     */
    void refused(String house, int number, String... calls) {
        for (String call : calls) {
            Plans plans = row(house);
            int[] ahead = refusals(plans);
            is(plans, call, number);
            int[] behind = refusals(plans);
            for (int i = 0; i < ahead.length; i++) {
                int more = -number == i + 1 ? 1 : 0;
                same("behind " + call + ": count(" + (11 + i) + ")", behind[i], ahead[i] + more);
            }
            changesNothing(house, call);
        }
    }

    void changesNothing(String house, String call) {
        for (List<String> part : readings(row(house).ask("count(0)"))) {
            Plans with = row(house, call);
            Plans without = row(house);
            for (String reading : part) {
                same("behind " + call + ": " + reading, with.ask(reading), without.ask(reading));
            }
        }
    }

    private static int[] refusals(Plans plans) {
        int[] counts = new int[6];
        for (int i = 0; i < counts.length; i++) {
            counts[i] = plans.ask("count(" + (11 + i) + ")");
        }
        return counts;
    }

    /** All that can be read of a house, in parts, so that no object is asked too often. */
    private static List<List<String>> readings(int teams) {
        List<String> facts = new ArrayList<>();
        add(facts, each(0, 6, "count(#)"), each(0, 10, "free(#)"), "fit(); walked(); weekends(0); weekends(32)");
        for (int what = 0; what <= 8; what++) {
            add(facts, each(0, teams - 1, "teamOf(#, " + what + ")"));
        }
        add(facts, each(0, teams - 1, "desks(#); bill(#)"));
        List<String> floors = new ArrayList<>();
        add(floors, "kept(0, 0); kept(0, 1); kept(7, 0); kept(8, 0); kept(19, 0)");
        add(floors, each(0, 10, "floor(#, 0, 1); floor(#, 1, 2); floor(#, 2, 0); floor(#, 3, 0); turn(#)"), "lift(1)");
        List<String> growth = new ArrayList<>();
        List<String> people = new ArrayList<>();
        List<String> visits = new ArrayList<>();
        List<String> twos = new ArrayList<>();
        for (int t = 0; t < teams; t++) {
            add(growth, each(0, 19, "sizeIn(" + t + ", #)"));
            add(people, each(0, 4, "lack(" + t + ", 0, #); lack(" + t + ", 1, #); lack(" + t + ", 2, #)"));
            add(visits, each(0, t - 1, "two(" + t + ", #, 0, 0)"));
            add(twos, each(0, t - 1, "two(" + t + ", #, 1, 0); two(" + t + ", #, 2, 0)"));
        }
        return List.of(facts, floors, growth, people, visits, twos);
    }

    private static void add(List<String> calls, String... rows) {
        for (String row : rows) {
            for (String call : row.split(";")) {
                if (!call.isBlank()) {
                    calls.add(call.trim());
                }
            }
        }
    }
}
