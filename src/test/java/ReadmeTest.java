import java.io.IOException;
import java.lang.reflect.Method;
import java.nio.file.Files;
import java.nio.file.Path;
import java.util.Arrays;
import java.util.regex.Matcher;
import java.util.regex.Pattern;

/** The use that README.md tells: every call in it answers what stands beside it. */
final class ReadmeTest {
    private static final Pattern MADE = Pattern.compile("StreamFusion x = new StreamFusion\\((\\d+)\\);");
    private static final Pattern CALL = Pattern.compile("x\\.(\\w+)\\((.*)\\); +// (\\w+).*");

    public static void main(String[] args) throws IOException, ReflectiveOperationException {
        String readme = Files.readString(Path.of("README.md"));
        String use = readme.split("```java\n")[1].split("```")[0];
        String[] lines = use.split("\n");
        Matcher made = MADE.matcher(lines[0]);
        Check.due("the first line makes an object: " + lines[0], made.matches(), true);
        StreamFusion x = new StreamFusion(Integer.parseInt(made.group(1)));
        for (String line : Arrays.asList(lines).subList(1, lines.length)) {
            Matcher call = CALL.matcher(line);
            Check.due("a call with its answer: " + line, call.matches(), true);
            Check.due(line, answer(x, call.group(1), call.group(2)), number(call.group(3)));
        }
        Check.end();
    }

    private static Object answer(StreamFusion x, String name, String given) throws ReflectiveOperationException {
        String[] words = given.isEmpty() ? new String[0] : given.split(", ");
        Object[] numbers = new Object[words.length];
        for (int i = 0; i < words.length; i++) {
            numbers[i] = number(words[i].replace("StreamFusion.", ""));
        }
        Class<?>[] types = new Class<?>[words.length];
        Arrays.fill(types, int.class);
        Method method = StreamFusion.class.getMethod(name, types);
        return method.invoke(x, numbers);
    }

    /** A number as it stands, or the constant of that name. */
    private static int number(String word) throws ReflectiveOperationException {
        boolean digits = word.matches("-?\\d+");
        return digits ? Integer.parseInt(word) : StreamFusion.class.getField(word).getInt(null);
    }
}
