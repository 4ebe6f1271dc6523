import java.io.IOException;
import java.lang.reflect.Method;
import java.lang.reflect.Modifier;
import java.nio.file.Files;
import java.nio.file.Path;
import java.util.regex.Matcher;
import java.util.regex.Pattern;

/** README.md: each call that it shows answers what it says there, and it names every call of the face. */
public final class ReadmeTest {
    private static final Pattern MAKES = Pattern.compile("StoneRoom room = new StoneRoom\\(\\);");
    private static final Pattern SHOWN =
        Pattern.compile("room\\.(\\w+)\\(([^)]*)\\);\\s+// (-?\\d+|true|false)\\b.*");

    private final Check check = new Check();
    private StoneRoom room = new StoneRoom();
    private int calls = 0;

    public static void main(String[] args) throws IOException, ReflectiveOperationException {
        String readme = Files.readString(Path.of("README.md"));
        ReadmeTest test = new ReadmeTest();
        Matcher block = Pattern.compile("(?s)```java\n(.*?)```").matcher(readme);
        while (block.find()) {
            for (String line : block.group(1).split("\n")) {
                test.line(line);
            }
        }
        test.check.due("README.md shows calls", test.calls > 0, true);
        test.names(readme);
        test.check.close("ReadmeTest");
    }

    private void line(String line) throws ReflectiveOperationException {
        Matcher shown = SHOWN.matcher(line);
        if (MAKES.matcher(line).matches()) {
            room = new StoneRoom();
        } else if (shown.matches()) {
            calls++;
            String[] values = shown.group(2).isEmpty() ? new String[0] : shown.group(2).split(", *");
            Object answer = call(shown.group(1), values);
            check.due("README.md: " + line, String.valueOf(answer), shown.group(3));
        } else {
            check.due("README.md has a line that is no call with its answer: " + line, false, true);
        }
    }

    private Object call(String name, String[] values) throws ReflectiveOperationException {
        for (Method method : StoneRoom.class.getMethods()) {
            if (method.getName().equals(name) && method.getParameterCount() == values.length) {
                Object[] given = new Object[values.length];
                for (int i = 0; i < values.length; i++) {
                    boolean yesOrNo = method.getParameterTypes()[i] == boolean.class;
                    given[i] = yesOrNo ? (Object) Boolean.valueOf(values[i]) : (Object) Integer.decode(values[i]);
                }
                return method.invoke(room, given);
            }
        }
        return "no such call";
    }

    private void names(String readme) {
        for (Method method : StoneRoom.class.getDeclaredMethods()) {
            if (Modifier.isPublic(method.getModifiers())) {
                check.due("README.md names " + method, readme.contains("`" + method.getName() + "("), true);
            }
        }
    }
}
