import java.io.IOException;
import java.lang.reflect.Method;
import java.lang.reflect.Modifier;
import java.nio.file.Files;
import java.nio.file.Path;
import java.util.regex.Matcher;
import java.util.regex.Pattern;

/** README.md names every call, and each call of its example answers what stands behind it. */
public final class ReadmeTest {
    private static final Pattern CALL = Pattern.compile("leader\\.(\\w+)\\((.*)\\);\\s+// (\\S+)");

    public static void main(String[] args) throws IOException, ReflectiveOperationException {
        Path source = Path.of(System.getProperty("source"));
        String readme = Files.readString(source.resolve("../../../../README.md").normalize());
        PrefixLeader leader = new PrefixLeader();
        int made = 0;
        Matcher calls = CALL.matcher(readme);
        while (calls.find()) {
            made++;
            Due.is(calls.group(), answer(leader, calls.group(1), calls.group(2)), calls.group(3));
        }
        Due.is("calls made", made > 0, true);
        Due.is("calls without an answer", readme.split("leader\\.").length - 1, made);
        for (Method method : PrefixLeader.class.getDeclaredMethods()) {
            if (Modifier.isPublic(method.getModifiers())) {
                Due.is("names " + method.getName(), readme.contains("`" + method.getName() + "("), true);
            }
        }
        Due.is("tells how to run the tests", readme.contains(".ci/run"), true);
        Due.end();
    }

    private static String answer(PrefixLeader leader, String name, String told) throws ReflectiveOperationException {
        String[] texts = told.split(", ");
        Object[] values = new Object[texts.length];
        Class<?>[] types = new Class<?>[texts.length];
        for (int i = 0; i < texts.length; i++) {
            values[i] = Long.decode(texts[i]).intValue();
            types[i] = int.class;
        }
        return String.valueOf(PrefixLeader.class.getMethod(name, types).invoke(leader, values));
    }
}
