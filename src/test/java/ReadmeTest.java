import java.io.IOException;
import java.lang.reflect.InvocationTargetException;
import java.lang.reflect.Method;
import java.nio.file.Files;
import java.nio.file.Path;
import java.util.regex.Matcher;
import java.util.regex.Pattern;

/** Asks every call that README.md shows and compares its answer with the one told behind it. */
public final class ReadmeTest {
    private static final Check CHECK = new Check("ReadmeTest");
    private static final Pattern MADE = Pattern.compile("FoldRoads x = new FoldRoads\\(\\);");
    private static final Pattern PUT = Pattern.compile("put\\(x, \"(.*)\"\\);");
    private static final Pattern CALL = Pattern.compile("x\\.(\\w+)\\((.*?)\\);\\s+// (-?\\w+)(:.*)?");

    private FoldRoads x;

    public static void main(String[] args) throws IOException, IllegalAccessException {
        new ReadmeTest().read(Path.of(args.length > 0 ? args[0] : "README.md"));
        CHECK.finish();
    }

    private void read(Path page) throws IOException, IllegalAccessException {
        boolean code = false;
        for (String line : Files.readAllLines(page)) {
            if (line.startsWith("```")) {
                code = line.equals("```java");
            } else if (code) {
                run(line);
            }
        }
    }

    private void run(String line) throws IllegalAccessException {
        Matcher put = PUT.matcher(line);
        Matcher call = CALL.matcher(line);
        if (MADE.matcher(line).matches()) {
            x = new FoldRoads();
        } else if (put.matches()) {
            Texts.put(x, put.group(1));
        } else if (call.matches()) {
            CHECK.due(line, answer(call.group(1), call.group(2)), call.group(3));
        } else {
            CHECK.due("a line of code is read: " + line, false, true);
        }
    }

    private String answer(String name, String arguments) throws IllegalAccessException {
        String[] told = arguments.isEmpty() ? new String[0] : arguments.split(", ");
        Object[] numbers = new Object[told.length];
        for (int i = 0; i < told.length; i++) {
            numbers[i] = Integer.decode(told[i]);
        }
        for (Method method : FoldRoads.class.getMethods()) {
            if (method.getName().equals(name) && method.getParameterCount() == told.length) {
                try {
                    return String.valueOf(method.invoke(x, numbers));
                } catch (InvocationTargetException e) {
                    return e.getCause().getClass().getSimpleName();
                }
            }
        }
        return "no such call";
    }
}
