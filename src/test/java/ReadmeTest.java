import java.lang.reflect.Method;
import java.lang.reflect.Modifier;
import java.nio.file.Files;
import java.nio.file.Path;
import java.util.regex.Matcher;
import java.util.regex.Pattern;

/** README.md: its calls, line by line, answer what stands behind them; each call is named. */
public final class ReadmeTest extends Checks {
    private static final Pattern BLOCK = Pattern.compile("(?s)```java\n(.*?)```");
    private static final Pattern CALL = Pattern.compile("h\\.(\\w+)\\(([-0-9, ]*)\\); *// (-?\\d+|[A-Z]+): .*");
    private static final Pattern SIGNS = Pattern.compile("for \\(char c : \"(.*)\"\\.toCharArray\\(\\)\\) \\{");

    private HeadSplits h;
    private String signs = "";

    private void line(String text) throws ReflectiveOperationException {
        Matcher loop = SIGNS.matcher(text);
        Matcher call = CALL.matcher(text);
        if (text.equals("HeadSplits h = new HeadSplits();")) {
            h = new HeadSplits();
        } else if (loop.matches()) {
            signs = loop.group(1);
        } else if (text.equals("h.say(c);")) {
            say(h, signs);
        } else if (call.matches()) {
            due(text, answerOf(call.group(1), call.group(2)), numberOf(call.group(3)));
        } else if (!text.equals("}")) {
            due("a line that can be read", text, "a call, and its answer");
        }
    }

    private int answerOf(String name, String numbers) throws ReflectiveOperationException {
        String[] parts = numbers.isEmpty() ? new String[0] : numbers.split(", ");
        Class<?>[] types = new Class<?>[parts.length];
        Object[] values = new Object[parts.length];
        for (int k = 0; k < parts.length; k++) {
            types[k] = int.class;
            values[k] = Integer.valueOf(parts[k]);
        }
        return (Integer) HeadSplits.class.getMethod(name, types).invoke(h, values);
    }

    private static int numberOf(String answer) throws ReflectiveOperationException {
        boolean isName = Character.isUpperCase(answer.charAt(0));
        return isName ? HeadSplits.class.getField(answer).getInt(null) : Integer.parseInt(answer);
    }

    private static void eachCallIsNamed(String readme) {
        for (Method m : HeadSplits.class.getDeclaredMethods()) {
            if (Modifier.isPublic(m.getModifiers())) {
                due("a word on " + m.getName(), readme.contains("`" + m.getName() + "`") ? 1 : 0, 1);
            }
        }
    }

    public static void main(String[] args) throws Exception {
        String readme = Files.readString(Path.of("README.md"));
        about("README.md");
        ReadmeTest test = new ReadmeTest();
        int lines = 0;
        for (Matcher block = BLOCK.matcher(readme); block.find();) {
            for (String text : block.group(1).split("\n")) {
                test.line(text.strip());
                lines++;
            }
        }
        due("there are lines to read", lines > 0 ? 1 : 0, 1);
        eachCallIsNamed(readme);
        endWith("README.md tells what the class answers");
    }
}
