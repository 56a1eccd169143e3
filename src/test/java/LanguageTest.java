import java.io.IOException;
import java.lang.reflect.Constructor;
import java.lang.reflect.Field;
import java.lang.reflect.Method;
import java.lang.reflect.Modifier;
import java.nio.file.Files;
import java.nio.file.Path;
import java.util.Set;
import java.util.TreeSet;
import java.util.regex.Matcher;
import java.util.regex.Pattern;

/** The public face of the document, and those rules of LANGUAGE.md that can be read off the program. */
final class LanguageTest {
    private static final Path SOURCE = Path.of("src/main/java/FloorPlans.java");
    private static final Path DOCUMENT = Path.of("../shared/DOC.md");
    private static final String[] FACE = {
        "floor(int,int,int)", "team(int,int,int,int)", "size(int,int)", "sit(int,int)", "fix(int,boolean)",
        "two(int,int,int,int)", "fit()", "lift(int)", "walked()", "best(int,int,int)", "bestOf(int,int,int)",
        "seat(int,int)", "target(int,int)", "weekends(int)", "move(int,int,int)", "go(int)", "person(int,int,int)",
        "desks(int)", "lack(int,int,int)", "least(int,int)", "grow(int,int,int)", "sizeIn(int,int)", "kept(int,int)",
        "bill(int)", "turn(int)", "teamOf(int,int)", "free(int)", "count(int)",
    };
    private static final String[] FORBIDDEN = {
        "\\bthrow\\b", "\\btry\\b", "\\bcatch\\b", "\\bsynchronized\\b", "\\bassert\\b", "->", "::", "\\bprotected\\b",
        "Exact\\b", "\\bRandom\\b", "\\bThread\\b", "\\bcurrentTimeMillis\\b", "\\bnanoTime\\b", "\\bpackage\\b",
        "\\bdouble\\b", "\\bfloat\\b", "\\bhashCode\\b", "\\[\\]\\[\\]\\[\\]",
    };

    private static final Set<String> problems = new TreeSet<>();

    public static void main(String[] args) throws IOException {
        faceOfTheDocument();
        face();
        nested();
        source(Files.readString(SOURCE));
        problems.forEach(problem -> System.out.println("LanguageTest: " + problem));
        System.out.println("LanguageTest: " + problems.size() + " problems");
        if (!problems.isEmpty()) {
            System.exit(1);
        }
    }

    private static String signature(Method method) {
        StringBuilder text = new StringBuilder(method.getName()).append('(');
        for (Class<?> type : method.getParameterTypes()) {
            text.append(text.charAt(text.length() - 1) == '(' ? "" : ",").append(type.getName());
        }
        return text.append(')').toString();
    }

    /** The face that the class is held to is the one that the document shows, no call more or less. */
    private static void faceOfTheDocument() throws IOException {
        if (!Files.exists(DOCUMENT)) {
            System.out.println("LanguageTest: there is no " + DOCUMENT + ", so the face is not compared with it");
            return;
        }
        String document = Files.readString(DOCUMENT);
        check(document.contains("public final class FloorPlans {\n    public FloorPlans();\n"), "the document has another face");
        Set<String> shown = new TreeSet<>();
        Matcher line = Pattern.compile("(?m)^    public int (\\w+)\\(([^)]*)\\);$").matcher(document);
        while (line.find()) {
            shown.add(line.group(1) + "(" + line.group(2).replaceAll(" \\w+(, )?", ",").replaceAll(",$", "") + ")");
        }
        check(shown.equals(new TreeSet<>(Set.of(FACE))), "the document shows " + shown);
    }

    private static void face() {
        Set<String> wanted = new TreeSet<>(Set.of(FACE));
        Set<String> names = new TreeSet<>();
        wanted.forEach(one -> names.add(one.substring(0, one.indexOf('('))));
        int modifiers = FloorPlans.class.getModifiers();
        check(Modifier.isPublic(modifiers) && Modifier.isFinal(modifiers), "the class is not public and final");
        for (Method method : FloorPlans.class.getDeclaredMethods()) {
            if (Modifier.isPrivate(method.getModifiers())) {
                check(!names.contains(method.getName()), "a private method is called " + method.getName());
            } else {
                boolean isFace = Modifier.isPublic(method.getModifiers()) && method.getReturnType() == int.class;
                check(isFace && wanted.remove(signature(method)), "not of the face: " + method);
            }
        }
        check(wanted.isEmpty(), "missing of the face: " + wanted);
        for (Constructor<?> constructor : FloorPlans.class.getDeclaredConstructors()) {
            check(Modifier.isPublic(constructor.getModifiers()) && constructor.getParameterCount() == 0,
                "not of the face: " + constructor);
        }
        fields(FloorPlans.class);
        for (Field field : FloorPlans.class.getDeclaredFields()) {
            check(Modifier.isPrivate(field.getModifiers()), "a field that is not private: " + field);
        }
    }

    private static void fields(Class<?> of) {
        int own = 0;
        for (Field field : of.getDeclaredFields()) {
            boolean isStatic = Modifier.isStatic(field.getModifiers());
            own += isStatic ? 0 : 1;
            check(!isStatic || Modifier.isFinal(field.getModifiers()), "a static field that is not final: " + field);
        }
        check(own <= 20, "too many fields in " + of);
    }

    private static void nested() {
        Class<?>[] classes = FloorPlans.class.getDeclaredClasses();
        check(classes.length < 12, "too many classes");
        for (Class<?> one : classes) {
            fields(one);
            check(Modifier.isStatic(one.getModifiers()), one + " is not static");
            check(one.getDeclaredClasses().length == 0, one + " has classes inside");
            for (Method method : one.getDeclaredMethods()) {
                check(method.getParameterCount() <= 7, "too many parameters: " + method);
            }
        }
    }

    private static void source(String text) {
        String code = text.replaceAll("(?s)/\\*.*?\\*/", " ").replaceAll("//[^\n]*", " ");
        for (String word : FORBIDDEN) {
            check(!Pattern.compile(word).matcher(code).find(), "the program has " + word);
        }
        Matcher imports = Pattern.compile("import ([^;]*);").matcher(code);
        while (imports.find()) {
            check(imports.group(1).matches("java\\.util\\.(Arrays|ArrayList|List|Iterator)"), "import " + imports.group(1));
        }
        check(text.chars().allMatch(c -> c == '\n' || c >= 32 && c < 127), "the program has other signs than ASCII's");
        int from = -1;
        String[] lines = text.split("\n");
        for (int i = 0; i < lines.length; i++) {
            if (lines[i].matches("( {4}| {8})\\S.*\\) \\{") && !lines[i].matches(" *(if|for|while|switch) .*")) {
                from = i;
            }
            if (lines[i].matches("( {4}| {8})\\}")) {
                check(from < 0 || i - from < 60, "a method of more than 60 lines ends in line " + (i + 1));
                from = -1;
            }
        }
    }

    private static void check(boolean holds, String problem) {
        if (!holds) {
            problems.add(problem);
        }
    }
}
