import java.io.File;
import java.io.IOException;
import java.lang.reflect.Method;
import java.lang.reflect.Modifier;
import java.nio.charset.StandardCharsets;
import java.nio.file.Files;
import java.nio.file.Path;
import java.util.regex.Matcher;
import java.util.regex.Pattern;

/** What README.md says is so: each line of its example answers as the line says, and no call, test or constant is missing. */
public final class PlayedLawsReadme {
    private static final Path PAGE = Path.of("README.md");
    private static final File TESTS = new File("src/test/java");
    private static final Pattern EXAMPLE = Pattern.compile("```java\n(.*?)```", Pattern.DOTALL);
    private static final Pattern MAKING = Pattern.compile("PlayedLaws laws = new PlayedLaws\\(\\);");
    private static final Pattern WRITING = Pattern.compile("for \\(char letter : \"([^\"]*)\"\\.toCharArray\\(\\)\\) laws\\.write\\(letter\\);");
    private static final Pattern CALL = Pattern.compile("laws\\.(\\w+)\\(([-\\d, ]*)\\); +// (-?\\d+|[A-Z]+): .+");
    private static final String[] CONSTANTS = {"BAD", "NO", "FULL", "NONE"};

    private static PlayedLaws laws;
    private static int answers = 0;
    private static int wrong = 0;

    private PlayedLawsReadme() {
    }

    public static void main(String[] args) throws Exception {
        String page = new String(Files.readAllBytes(PAGE), StandardCharsets.UTF_8);
        Matcher example = EXAMPLE.matcher(page);
        while (example.find()) {
            for (String line : example.group(1).split("\n")) follow(line);
        }
        due(answers > 0, "the page has an example with answers");
        names(page);
        System.out.println(wrong == 0 ? "the page is so, " + answers + " answers of its example too" : wrong + " things on the page are not so");
        if (wrong != 0) System.exit(1);
    }

    private static void due(boolean so, String what) {
        if (so) return;
        wrong++;
        System.out.println("not so: " + what);
    }

    private static void follow(String line) throws Exception {
        Matcher writing = WRITING.matcher(line);
        Matcher call = CALL.matcher(line);
        if (MAKING.matcher(line).matches()) {
            laws = new PlayedLaws();
        } else if (writing.matches()) {
            for (char letter : writing.group(1).toCharArray()) laws.write(letter);
        } else if (call.matches()) {
            int got = answer(call.group(1), call.group(2));
            due(got == number(call.group(3)), line + " (it answers " + got + ")");
            answers++;
        } else {
            due(false, "a line that this test can read: " + line);
        }
    }

    private static int answer(String name, String told) throws Exception {
        String[] words = told.isEmpty() ? new String[0] : told.split(", ");
        Class<?>[] kinds = new Class<?>[words.length];
        Object[] values = new Object[words.length];
        for (int i = 0; i < words.length; i++) {
            kinds[i] = int.class;
            values[i] = Integer.valueOf(words[i]);
        }
        return (Integer) PlayedLaws.class.getMethod(name, kinds).invoke(laws, values);
    }

    private static int number(String word) throws Exception {
        return Character.isLetter(word.charAt(0)) ? PlayedLaws.class.getField(word).getInt(null) : Integer.parseInt(word);
    }

    private static void names(String page) throws Exception {
        for (Method method : PlayedLaws.class.getDeclaredMethods()) {
            if (!Modifier.isPublic(method.getModifiers())) continue;
            due(page.contains("`" + method.getName() + "`"), "the page names " + method.getName());
        }
        for (String name : CONSTANTS) {
            due(page.contains("`" + name + "` (" + number(name) + ":"), "the page tells " + name + " and its number");
        }
        due(page.contains("`src/main/java/PlayedLaws.java`") && Files.exists(Path.of("src/main/java/PlayedLaws.java")), "the file of the class");
        due(page.contains("\n    .ci/run\n") && new File(".ci/run").canExecute(), "the script that runs the tests");
        tests(page);
    }

    private static void tests(String page) throws IOException {
        String[] files = TESTS.list();
        if (files == null) throw new IOException("no folder " + TESTS);
        for (String file : files) {
            due(page.contains("\n- `" + file.replace(".java", "") + "`: "), "the page names the test " + file);
        }
        Matcher named = Pattern.compile("\n- `(\\w+)`: ").matcher(page);
        while (named.find()) due(new File(TESTS, named.group(1) + ".java").exists(), "there is a test " + named.group(1));
    }
}
