import java.io.IOException;
import java.lang.reflect.InvocationTargetException;
import java.lang.reflect.Method;
import java.nio.file.Files;
import java.nio.file.Path;
import java.util.Arrays;
import java.util.Set;
import java.util.TreeSet;
import java.util.regex.Matcher;
import java.util.regex.Pattern;

/** README.md shows calls with their answers: they are made, one by one; and it names each call of the face. */
public final class ReadmeTest {
    private static final Pattern CALL = Pattern.compile("x\\.(\\w+)\\(([^)]*)\\); +// (-?\\w+).*");

    private ReadmeTest() {
    }

    public static void main(String[] args) throws IOException, IllegalAccessException {
        String readme = Files.readString(Path.of("README.md"));
        int from = readme.indexOf("```java\n") + 8;
        Far x = new Far();
        for (String line : readme.substring(from, readme.indexOf("```", from)).split("\n")) {
            Matcher call = CALL.matcher(line);
            if (call.matches()) {
                Check.due(call.group(1) + "(" + call.group(2) + ")", answer(x, call.group(1), call.group(2)), call.group(3));
            } else {
                boolean other = line.isEmpty() || line.startsWith("// ") || line.equals("FarFolders x = new FarFolders();");
                Check.due("a line without an answer: " + line, other, true);
            }
        }
        Check.due("many calls", Check.checks() > 30, true);
        namesAll(readme);
        Check.close("ReadmeTest");
    }

    private static String answer(Far x, String name, String arguments) throws IllegalAccessException {
        Object[] numbers = arguments.isEmpty() ? new Object[0]
            : Arrays.stream(arguments.split(", ")).map(Integer::decode).toArray();
        Class<?>[] types = new Class<?>[numbers.length];
        Arrays.fill(types, int.class);
        try {
            return Far.class.getDeclaredMethod(name, types).invoke(x, numbers).toString();
        } catch (NoSuchMethodException e) {
            return "no such call";
        } catch (InvocationTargetException e) {
            return e.getCause().getClass().getSimpleName();
        }
    }

    private static void namesAll(String readme) {
        Set<String> names = new TreeSet<>();
        for (Method method : FarFolders.class.getMethods()) {
            if (method.getDeclaringClass() == FarFolders.class) {
                names.add(method.getName());
            }
        }
        Check.due("33 calls", names.size(), 33);
        for (String name : names) {
            Check.due("it names " + name, readme.contains("`" + name + "`"), true);
        }
    }
}
