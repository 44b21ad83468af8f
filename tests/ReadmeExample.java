import java.lang.reflect.Method;
import java.nio.file.Files;
import java.nio.file.Path;
import java.util.regex.Matcher;
import java.util.regex.Pattern;

/** Does what the example of README.md does and compares the answers with those it tells. */
public final class ReadmeExample extends Checks {
    private static final Pattern LINE = Pattern.compile("m\\.(\\w+)\\(([-\\d, ]*)\\); +// (-?\\d+).*");

    public static void main(String[] args) throws Exception {
        tested = "README.md";
        String readme = Files.readString(Path.of("README.md"));
        int from = readme.indexOf("```java\n");
        int to = readme.indexOf("```\n", from + 1);
        String[] lines = from < 0 || to < 0 ? new String[0] : readme.substring(from, to).split("\n");
        BrickModels m = new BrickModels();
        int calls = 0;
        for (int i = 2; i < lines.length; i++) {
            Matcher line = LINE.matcher(lines[i]);
            if (line.matches()) {
                due(lines[i], answer(m, line.group(1), line.group(2)), Integer.parseInt(line.group(3)));
                calls++;
            } else {
                fail("a line that tells no answer: " + lines[i]);
            }
        }
        if (calls < 10) {
            fail("the example is not found");
        }
        for (Method method : BrickModels.class.getDeclaredMethods()) {
            boolean isFace = java.lang.reflect.Modifier.isPublic(method.getModifiers());
            if (isFace && !readme.contains("`" + method.getName() + "`")) {
                fail("nothing is told of " + method.getName());
            }
        }
        end();
    }

    private static int answer(BrickModels m, String name, String numbers) throws Exception {
        String[] parts = numbers.isBlank() ? new String[0] : numbers.split(", *");
        Object[] values = new Object[parts.length];
        Class<?>[] types = new Class<?>[parts.length];
        for (int i = 0; i < parts.length; i++) {
            values[i] = Integer.valueOf(parts[i]);
            types[i] = int.class;
        }
        return (Integer) BrickModels.class.getMethod(name, types).invoke(m, values);
    }
}
