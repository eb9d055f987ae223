import java.io.IOException;
import java.lang.reflect.Field;
import java.lang.reflect.Method;
import java.lang.reflect.Modifier;
import java.nio.file.Files;
import java.nio.file.Path;
import java.util.regex.Matcher;
import java.util.regex.Pattern;

/** What README.md says of the class: each answer in its examples, and the names of all calls and constants. */
public final class ReadmeTest {
    private static final Pattern PLAY = Pattern.compile("for \\(char sign : \"([^\"]*)\"\\.toCharArray\\(\\)\\) \\{");
    private static final Pattern CALL = Pattern.compile("stage\\.(\\w+)\\(([-0-9, ]*)\\); +// (-?\\d+): .*");

    private static final Check check = new Check();

    private static StageCount stage = null;
    private static int examples = 0;

    public static void main(String[] args) throws IOException, ReflectiveOperationException {
        String page = Files.readString(Path.of("README.md"));
        for (String line : page.split("\n")) {
            follow(line.trim());
        }
        check.that("there are examples with answers", examples >= 30);
        namesEachCall(page);
        namesEachConstant(page);
        check.end();
    }

    private static void follow(String line) throws ReflectiveOperationException {
        Matcher play = PLAY.matcher(line);
        Matcher call = CALL.matcher(line);
        if (line.equals("StageCount stage = new StageCount();")) {
            stage = new StageCount();
        } else if (play.matches()) {
            Check.say(stage, play.group(1));
        } else if (call.matches()) {
            examples++;
            check.due(line, answer(call.group(1), call.group(2)), Integer.parseInt(call.group(3)));
        } else {
            check.that("has a call, but no answer: " + line, !line.startsWith("stage.") || line.equals("stage.say(sign);"));
        }
    }

    private static int answer(String name, String numbers) throws ReflectiveOperationException {
        String[] parts = numbers.isBlank() ? new String[0] : numbers.split(",");
        Class<?>[] types = new Class<?>[parts.length];
        Object[] values = new Object[parts.length];
        for (int i = 0; i < parts.length; i++) {
            types[i] = int.class;
            values[i] = Integer.valueOf(parts[i].trim());
        }
        return (Integer) StageCount.class.getMethod(name, types).invoke(stage, values);
    }

    private static void namesEachCall(String page) {
        for (Method method : StageCount.class.getDeclaredMethods()) {
            if (Modifier.isPublic(method.getModifiers())) {
                int inputs = method.getParameterCount();
                String names = inputs == 0 ? "" : "\\w+(, \\w+){" + (inputs - 1) + "}";
                String row = "\\| `" + method.getName() + "\\(" + names + "\\)` \\| .+ \\|";
                check.that("the call " + method.getName() + " has a row", Pattern.compile(row).matcher(page).find());
            }
        }
    }

    private static void namesEachConstant(String page) throws IllegalAccessException {
        for (Field field : StageCount.class.getDeclaredFields()) {
            if (Modifier.isPublic(field.getModifiers())) {
                String row = "| `" + field.getName() + "` | " + field.getInt(null) + " |";
                check.that("the constant " + field.getName() + " has a row", page.contains(row));
            }
        }
    }
}
