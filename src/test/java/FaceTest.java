import java.io.IOException;
import java.lang.reflect.Field;
import java.lang.reflect.Member;
import java.lang.reflect.Method;
import java.lang.reflect.Modifier;
import java.nio.file.Files;
import java.nio.file.Path;
import java.util.Set;
import java.util.TreeSet;

/** The public face, and words that ../shared/LANGUAGE.md keeps out of the file. */
public final class FaceTest {
    private static final String FILE = "src/main/java/StageCount.java";
    private static final String[] CALLS = {
        "set 2", "say 1", "wipe 0", "fault 0", "judge 1", "on 1", "lines 1", "may 3", "broken 0", "strangers 1", "cuts 0",
        "cast 1", "ill 2", "scene 1", "strike 0", "order 1", "seen 2", "forget 0", "fits 1", "could 1", "evening 3",
        "image 1", "restore 1", "told 1"};
    private static final String[] CONSTANTS = {"UNKNOWN -1", "OUTSIDE -2", "STATE -3", "FULL -4", "NO -5", "NONE -6"};
    private static final String[] KEPT_OUT = {
        "->", "::", "\\bcatch\\b", "\\bfinally\\b", "\\bassert\\b", "\\bsynchronized\\b", "\\bpackage\\b", "Exact\\b",
        "\\bvar\\b", "\\bthrows?\\b", "static \\{", "\\bprotected\\b", "\\bInteger\\.valueOf\\b", "import (?!java\\.util\\.Arrays;)",
        "[^\\x00-\\x7f]", "\t", "\\bM(AX|IN)_VALUE\\b", "\\bSystem\\.(?!arraycopy\\b)"};

    private static final Check check = new Check();

    public static void main(String[] args) throws Exception {
        calls();
        constants();
        members();
        keptOut();
        check.end();
    }

    private static void calls() {
        Set<String> want = new TreeSet<>(Set.of(CALLS));
        Set<String> got = new TreeSet<>();
        for (Method method : StageCount.class.getDeclaredMethods()) {
            if (Modifier.isPublic(method.getModifiers())) {
                got.add(method.getName() + " " + method.getParameterCount());
                check.that(method.getName() + " answers an int", method.getReturnType() == int.class);
            }
        }
        check.that("the calls are " + want + ": " + got, want.equals(got));
        check.that("public and final", Modifier.isPublic(StageCount.class.getModifiers()) && Modifier.isFinal(StageCount.class.getModifiers()));
        check.due("constructors", StageCount.class.getConstructors().length, 1);
    }

    private static void constants() throws IllegalAccessException {
        Set<String> want = new TreeSet<>(Set.of(CONSTANTS));
        Set<String> got = new TreeSet<>();
        for (Field field : StageCount.class.getFields()) {
            got.add(field.getName() + " " + field.getInt(null));
        }
        check.that("the constants are " + want + ": " + got, want.equals(got));
    }

    private static void members() {
        Set<String> publics = new TreeSet<>();
        for (String call : CALLS) {
            publics.add(call.substring(0, call.indexOf(' ')));
        }
        for (Method method : StageCount.class.getDeclaredMethods()) {
            privateOrPublic(method);
            check.that(method.getName() + " bears no public name", Modifier.isPublic(method.getModifiers()) || !publics.contains(method.getName()));
        }
        for (Field field : StageCount.class.getDeclaredFields()) {
            privateOrPublic(field);
            check.that(field.getName() + " is no static state", !Modifier.isStatic(field.getModifiers()) || Modifier.isFinal(field.getModifiers()));
        }
        for (Class<?> inside : StageCount.class.getDeclaredClasses()) {
            check.that(inside.getName() + " is static", Modifier.isStatic(inside.getModifiers()));
            check.that(inside.getName() + " has few fields", inside.getDeclaredFields().length <= 20);
            for (Method method : inside.getDeclaredMethods()) {
                check.that(method.getName() + " takes few", method.getParameterCount() <= 7);
                check.that(method.getName() + " bears no public name inside", !publics.contains(method.getName()));
            }
        }
        check.that("few classes", StageCount.class.getDeclaredClasses().length <= 12);
    }

    private static void privateOrPublic(Member member) {
        int modifiers = member.getModifiers();
        check.that(member.getName() + " is private or public", Modifier.isPrivate(modifiers) || Modifier.isPublic(modifiers));
    }

    private static void keptOut() throws IOException {
        String[] lines = Files.readString(Path.of(FILE)).split("\n");
        for (int i = 0; i < lines.length; i++) {
            for (String word : KEPT_OUT) {
                check.that(word + " at line " + (i + 1), !lines[i].matches(".*" + word + ".*"));
            }
        }
    }
}
