import java.io.IOException;
import java.lang.reflect.Method;
import java.lang.reflect.Modifier;
import java.nio.file.Files;
import java.nio.file.Path;
import java.util.regex.Matcher;
import java.util.regex.Pattern;

/** That the examples in README.md answer as it says, and that it names every call; run in the project's folder. */
public final class ReadmeTest {
    private static final Due DUE = new Due("ReadmeTest");
    private static final Pattern CALL = Pattern.compile("x\\.(\\w+)\\(([-0-9, ]*)\\); *// (-?\\d+).*");
    private static final Pattern READ = Pattern.compile("read\\(x, \"([^\"]*)\"\\); *// (\\d+).*");

    public static void main(String[] args) throws IOException, ReflectiveOperationException {
        HotAtSeven x = new HotAtSeven();
        String readme = Files.readString(Path.of("README.md"));
        int examples = 0;
        for (String line : readme.split("\n")) {
            Matcher call = CALL.matcher(line);
            Matcher read = READ.matcher(line);
            if (call.matches()) {
                DUE.is(line, answer(x, call.group(1), call.group(2)), Integer.parseInt(call.group(3)));
                examples++;
            } else if (read.matches()) {
                DUE.is(line, Due.read(x, read.group(1)), Integer.parseInt(read.group(2)));
                examples++;
            } else {
                DUE.is("an example that is not read: " + line, line.startsWith("x.") || line.startsWith("read(") ? 1 : 0, 0);
            }
        }
        DUE.is("examples", examples > 20 ? 1 : 0, 1);
        for (Method m : HotAtSeven.class.getDeclaredMethods()) {
            if (Modifier.isPublic(m.getModifiers()))
                DUE.is("README names " + m.getName(), readme.contains("`" + m.getName() + "`") ? 1 : 0, 1);
        }
        DUE.end();
    }

    private static int answer(HotAtSeven x, String name, String given) throws ReflectiveOperationException {
        String[] words = given.isEmpty() ? new String[0] : given.split(", *");
        Object[] numbers = new Object[words.length];
        Class<?>[] types = new Class<?>[words.length];
        for (int i = 0; i < words.length; i++) {
            numbers[i] = Integer.parseInt(words[i]);
            types[i] = int.class;
        }
        return (int) HotAtSeven.class.getMethod(name, types).invoke(x, numbers);
    }
}
