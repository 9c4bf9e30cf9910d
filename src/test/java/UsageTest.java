import java.io.IOException;
import java.lang.reflect.InvocationTargetException;
import java.lang.reflect.Method;
import java.nio.file.Files;
import java.nio.file.Path;
import java.util.Arrays;
import java.util.Set;
import java.util.TreeSet;
import java.util.regex.Matcher;
import java.util.regex.Pattern;

/** The calls that README.md shows are made, in its order, and must answer what it says. */
public final class UsageTest {
    private static final Check check = new Check("UsageTest");
    private static final Pattern CALL = Pattern.compile("box\\.(\\w+)\\((.*)\\);\\s*// (-?[0-9.]+).*");

    private UsageTest() {
    }

    public static void main(String[] args) throws IOException, ReflectiveOperationException {
        Gearbox box = new Gearbox();
        Set<String> shown = new TreeSet<>();
        boolean isCode = false;
        for (String line : Files.readAllLines(Path.of("README.md"))) {
            if (line.startsWith("```")) {
                isCode = line.equals("```java");
            } else if (isCode && line.startsWith("box.")) {
                Matcher call = CALL.matcher(line);
                check.isTrue("that a call and its answer can be read in: " + line, call.matches());
                if (call.matches()) {
                    shown.add(call.group(1));
                    check.same(line, String.valueOf(answer(box, call.group(1), call.group(2))), call.group(3));
                }
            }
        }
        for (Method method : Gearbox.class.getMethods()) {
            boolean isOwn = method.getDeclaringClass() == Gearbox.class;
            check.isTrue("that README.md shows " + method.getName(), !isOwn || shown.contains(method.getName()));
        }
        check.end();
    }

    private static Object answer(Gearbox box, String name, String words) throws ReflectiveOperationException {
        Method method = Arrays.stream(Gearbox.class.getMethods()).filter(m -> m.getName().equals(name)).findFirst()
            .orElseThrow();
        Object[] told = words.isEmpty() ? new Object[0] : Arrays.stream(words.split(", ")).map(UsageTest::read).toArray();
        try {
            return method.invoke(box, told);
        } catch (InvocationTargetException e) {
            return e.getCause();
        }
    }

    private static Object read(String word) {
        if (word.equals("true") || word.equals("false")) {
            return Boolean.valueOf(word);
        }
        return (int) (long) Long.decode(word);
    }
}
