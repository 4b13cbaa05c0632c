import java.lang.reflect.Method;
import java.lang.reflect.Modifier;
import java.nio.file.Files;
import java.nio.file.Path;
import java.util.regex.Matcher;
import java.util.regex.Pattern;

/** The examples of README.md are made, line by line, on one desk: each must answer what stands behind it. */
public final class ReadmeTest {
    private static final Pattern NEW = Pattern.compile("LinkChances desk = new LinkChances\\(\\);");
    private static final Pattern TEXT = Pattern.compile("for \\(char c : \"([^\"]*)\"\\.toCharArray\\(\\)\\) desk\\.type\\(c\\);");
    private static final Pattern CALL = Pattern.compile("desk\\.(\\w+)\\(([-0-9, ]*)\\); +// (Long\\.MIN_VALUE \\+ )?(-?[0-9]+)(:.*)?");

    private static final Check check = new Check("ReadmeTest");
    private static LinkChances desk;

    public static void main(String[] args) throws Exception {
        String text = Files.readString(Path.of("README.md"));
        Matcher block = Pattern.compile("(?s)```java\n(.*?)```").matcher(text);
        while (block.find()) {
            for (String line : block.group(1).split("\n")) make(line);
        }
        for (Method m : LinkChances.class.getDeclaredMethods()) {
            if (!Modifier.isPublic(m.getModifiers())) continue;
            check.due(m.getName() + " has a row", text.contains("\n| `" + m.getName() + "(") ? 1 : 0, 1);
        }
        check.end();
    }

    private static void make(String line) throws Exception {
        Matcher text = TEXT.matcher(line), call = CALL.matcher(line);
        if (NEW.matcher(line).matches()) desk = new LinkChances();
        else if (text.matches()) type(text.group(1));
        else if (call.matches()) due(line, call);
        else check.due("a line that can be made: " + line, 0, 1);
    }

    private static void type(String text) {
        for (int i = 0; i < text.length(); i++) desk.type(text.charAt(i));
    }

    private static void due(String line, Matcher call) throws Exception {
        long want = Long.parseLong(call.group(4)) + (call.group(3) == null ? 0 : Long.MIN_VALUE);
        check.due(line, answer(call.group(1), call.group(2)), want);
    }

    private static long answer(String name, String given) throws Exception {
        String[] numbers = given.isEmpty() ? new String[0] : given.split(", ");
        Class<?>[] types = new Class<?>[numbers.length];
        Object[] values = new Object[numbers.length];
        for (int i = 0; i < numbers.length; i++) {
            types[i] = int.class;
            values[i] = Integer.valueOf(numbers[i]);
        }
        return ((Number) LinkChances.class.getMethod(name, types).invoke(desk, values)).longValue();
    }
}
