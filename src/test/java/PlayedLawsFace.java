import java.io.IOException;
import java.lang.reflect.Constructor;
import java.lang.reflect.Field;
import java.lang.reflect.Method;
import java.lang.reflect.Modifier;
import java.nio.charset.StandardCharsets;
import java.nio.file.Files;
import java.nio.file.Path;
import java.util.ArrayList;
import java.util.Arrays;
import java.util.List;
import java.util.TreeSet;

/** The face is the document's and no more, and the source holds nothing that LANGUAGE.md shuts out by a word. */
public final class PlayedLawsFace {
    private static final String SOURCE = "src/main/java/PlayedLaws.java";
    private static final String FACE = "write(1) wipe(0) fault(0) lay(0) scene(2) seat(2) tonight(2) passes(1) add(1) cut(1) play(0)"
        + " swap(2) hire(1) undo(0) soonest(2) seating(1) claques(1) falls(0) run(0) most(1) see(2) forget(0)"
        + " fits(2) coughs(2) season(3) keep(0) back(0) count(1)";
    private static final String[] SHUT_OUT = {
        "->", "::", "throw", "catch", "finally", "synchronized", "assert", "protected", "instanceof", "Exact(",
        "System.out", "System.err", "nanoTime", "currentTime", "Random", "String.valueOf", "double", "float"
    };

    private static int wrong = 0;

    private PlayedLawsFace() {
    }

    public static void main(String[] args) throws IOException {
        members();
        nested();
        source();
        System.out.println(wrong == 0 ? "the face is as told" : wrong + " things are not as told");
        if (wrong != 0) System.exit(1);
    }

    private static void due(boolean so, String what) {
        if (so) return;
        wrong++;
        System.out.println("not so: " + what);
    }

    private static void members() {
        TreeSet<String> found = new TreeSet<>();
        List<String> hidden = new ArrayList<>();
        for (Method method : PlayedLaws.class.getDeclaredMethods()) {
            int modifiers = method.getModifiers();
            if (method.isSynthetic()) continue;
            if (Modifier.isPrivate(modifiers)) {
                hidden.add(method.getName());
                continue;
            }
            due(modifiers == Modifier.PUBLIC && method.getReturnType() == int.class, method + " is a plain public int method");
            found.add(method.getName() + "(" + method.getParameterCount() + ")");
        }
        due(found.equals(new TreeSet<>(Arrays.asList(FACE.split(" ")))), "the public methods are " + found);
        for (String name : hidden) due(!FACE.matches("(.* )?" + name + "\\(.*"), "no private method is called " + name);
        for (Field field : PlayedLaws.class.getDeclaredFields()) {
            int modifiers = field.getModifiers();
            boolean told = field.getName().matches("BAD|NO|FULL|NONE");
            due(told ? modifiers == (Modifier.PUBLIC | Modifier.STATIC | Modifier.FINAL) : Modifier.isPrivate(modifiers),
                field.getName() + " is as visible as told");
            due(!Modifier.isStatic(modifiers) || Modifier.isFinal(modifiers), field.getName() + " is not static, or final");
        }
        Constructor<?>[] makers = PlayedLaws.class.getDeclaredConstructors();
        due(makers.length == 1 && makers[0].getParameterCount() == 0 && Modifier.isPublic(makers[0].getModifiers()), "one constructor");
        due(Modifier.isFinal(PlayedLaws.class.getModifiers()) && Modifier.isPublic(PlayedLaws.class.getModifiers()), "public final");
    }

    private static void nested() {
        Class<?>[] classes = PlayedLaws.class.getDeclaredClasses();
        due(classes.length < 12, "at most twelve classes in the file");
        for (Class<?> one : classes) {
            due(Modifier.isStatic(one.getModifiers()), one + " is static");
            due(!Modifier.isPublic(one.getModifiers()), one + " is not public");
            due(one.getDeclaredFields().length <= 20, one + " has twenty fields at most");
            for (Method method : one.getDeclaredMethods()) {
                due(method.getParameterCount() <= 7, method + " takes seven parameters at most");
            }
        }
    }

    private static void source() throws IOException {
        String source = new String(Files.readAllBytes(Path.of(SOURCE)), StandardCharsets.ISO_8859_1);
        for (char sign : source.toCharArray()) due(sign == '\n' || sign >= 32 && sign < 127, "a sign of the source: " + (int) sign);
        StringBuilder code = new StringBuilder();
        for (String line : source.split("\n")) {
            String bare = line.strip();
            if (bare.startsWith("//") || bare.startsWith("/*") || bare.startsWith("*")) continue;
            if (bare.startsWith("import ")) due(bare.equals("import java.util.Arrays;"), bare);
            code.append(line).append('\n');
        }
        for (String word : SHUT_OUT) due(code.indexOf(word) < 0, "no " + word);
    }
}
