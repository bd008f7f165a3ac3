import java.lang.reflect.Method;
import java.nio.file.Files;
import java.nio.file.Path;
import java.util.regex.Matcher;
import java.util.regex.Pattern;

/** Each call of README.md's example gets the answer with which its comment begins; run from the project's root. */
public final class ReadmeTest {
    private static final Check CHECK = new Check("ReadmeTest");

    public static void main(String[] args) throws Exception {
        String readme = Files.readString(Path.of("README.md"));
        int start = readme.indexOf("```java\n");
        int end = readme.indexOf("```", start + 3);
        AngelTown x = null;
        for (String line : readme.substring(start + 8, end).split("\n")) {
            if (line.equals("AngelTown x = new AngelTown();")) {
                x = new AngelTown();
            } else {
                play(x, line);
            }
        }
        CHECK.finish();
    }

    private static void play(AngelTown x, String line) throws Exception {
        Matcher m = Pattern.compile("x\\.(\\w+)\\(([^)]*)\\); +// (-?\\d+|true|false)(:.*)?").matcher(line);
        if (!m.matches()) {
            CHECK.due("a call with its answer: " + line, false, true);
            return;
        }
        String[] told = m.group(2).isEmpty() ? new String[0] : m.group(2).split(", ");
        for (Method method : AngelTown.class.getMethods()) {
            if (method.getName().equals(m.group(1)) && method.getParameterCount() == told.length) {
                Object[] args = new Object[told.length];
                for (int i = 0; i < told.length; i++) {
                    boolean bool = method.getParameterTypes()[i] == boolean.class;
                    args[i] = bool ? (Object) Boolean.valueOf(told[i]) : (Object) Integer.valueOf(told[i]);
                }
                String answer = String.valueOf(method.invoke(x, args));
                CHECK.due(line + " answered " + answer, answer.equals(m.group(3)), true);
                return;
            }
        }
        CHECK.due("a call of the face: " + line, false, true);
    }
}
