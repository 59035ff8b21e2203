import java.io.IOException;
import java.lang.reflect.InvocationTargetException;
import java.lang.reflect.Method;
import java.lang.reflect.Modifier;
import java.nio.file.Files;
import java.nio.file.Path;
import java.util.ArrayList;
import java.util.HashMap;
import java.util.List;
import java.util.Map;
import java.util.regex.Matcher;
import java.util.regex.Pattern;

/** What README.md shows is so: its calls are made in their order and answer what stands behind them. */
public final class ReadmeTest extends Bench {
    private static final Pattern CALL = Pattern.compile("wall\\.(\\w+)\\((.*?)\\); +// ([-\\w]+)(:.*)?");
    private static final Pattern TOLD = Pattern.compile("tell\\(wall, \"(.*)\"\\);");

    public static void main(String[] args) throws IOException, ReflectiveOperationException {
        String readme = Files.readString(Path.of("README.md"));
        List<String> shown = new ArrayList<>();
        Matcher blocks = Pattern.compile("(?s)```java\n(.*?)```").matcher(readme);
        while (blocks.find()) {
            shown.addAll(List.of(blocks.group(1).split("\n")));
        }
        noCallIsLeftOut(readme);
        theCalls(shown);
        theHelpersAreThoseOfThisTest(shown);
        close("ReadmeTest");
    }

    /** As README.md shows it. */
    static void tell(WarmWall wall, String text) {
        for (int at = 0; at < text.length(); at += 20) {
            wall.feed(word(text, at), word(text, at + 4), word(text, at + 8), word(text, at + 12), word(text, at + 16));
        }
    }

    static int word(String text, int from) {
        int word = 0;
        for (int at = from; at < from + 4; at++) {
            word = word << 8 | (at < text.length() ? text.charAt(at) : 0);
        }
        return word;
    }

    private static Map<String, Method> face() {
        Map<String, Method> face = new HashMap<>();
        for (Method method : WarmWall.class.getDeclaredMethods()) {
            if (Modifier.isPublic(method.getModifiers())) {
                face.put(method.getName(), method);
            }
        }
        return face;
    }

    private static void noCallIsLeftOut(String readme) {
        about("README.md, the table of calls");
        for (Method method : face().values()) {
            Matcher row = Pattern.compile("(?m)^\\| `" + method.getName() + "\\((.*?)\\)` \\| ").matcher(readme);
            boolean isTold = row.find();
            due(method.getName() + " is told", isTold, true);
            if (isTold) {
                int arguments = row.group(1).isEmpty() ? 0 : row.group(1).split(", ").length;
                due(method.getName() + "'s arguments", arguments, method.getParameterCount());
            }
        }
    }

    private static void theCalls(List<String> shown) throws ReflectiveOperationException {
        WarmWall wall = new WarmWall();
        int calls = 0;
        for (String line : shown) {
            Matcher call = CALL.matcher(line);
            Matcher told = TOLD.matcher(line);
            if (line.equals("WarmWall wall = new WarmWall();")) {
                wall = new WarmWall();
            } else if (told.matches()) {
                tell(wall, told.group(1));
            } else if (call.matches()) {
                about("README.md, " + line);
                String got = answer(wall, call.group(1), call.group(2));
                due("call " + call.group(1) + " (" + got + ") as shown", got.equals(call.group(3)), true);
                calls++;
            } else if (line.startsWith("wall.")) {
                about("README.md");
                due(line + " tells its answer", false, true);
            }
        }
        about("README.md");
        due("some calls are shown", calls > 20, true);
    }

    private static String answer(WarmWall wall, String name, String told) throws ReflectiveOperationException {
        Method method = face().get(name);
        String[] words = told.isEmpty() ? new String[0] : told.split(", ");
        Object[] arguments = new Object[words.length];
        for (int k = 0; k < words.length; k++) {
            boolean isTruth = method.getParameterTypes()[k] == boolean.class;
            arguments[k] = isTruth ? (Object) Boolean.valueOf(words[k]) : (Object) Integer.valueOf(words[k]);
        }
        try {
            return String.valueOf(method.invoke(wall, arguments));
        } catch (InvocationTargetException e) {
            return e.getCause().getClass().getSimpleName();
        }
    }

    private static void theHelpersAreThoseOfThisTest(List<String> shown) throws IOException {
        about("README.md, how a text is fed");
        String source = Files.readString(Path.of("src/test/java/ReadmeTest.java"));
        boolean isShown = false;
        for (String line : shown) {
            isShown |= line.startsWith("static ");
            if (line.startsWith("static ") || line.startsWith("    ")) {
                due(line, source.contains("\n    " + line + "\n"), true);
            }
        }
        due("tell and word are shown", isShown, true);
    }
}
