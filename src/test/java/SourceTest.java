import java.nio.file.Files;
import java.nio.file.Path;
import java.util.regex.Matcher;
import java.util.regex.Pattern;

/** Those rules of LANGUAGE.md that can be seen in the source's words; run from the project's root. */
public final class SourceTest {
    private static final Check CHECK = new Check("SourceTest");

    public static void main(String[] args) throws Exception {
        String source = Files.readString(Path.of("src/main/java/AngelTown.java"));
        String code = withoutComments(source);
        noWord(code, "throw|throws|try|catch|finally|synchronized|assert|package|native|volatile|transient|protected|var|sealed|yield");
        noWord(code, "Object|Random|Thread|System\\.(?!arraycopy)\\w+|Exception|Class|Double|Float|Long\\.\\w+Exact|Math\\.\\w+Exact");
        noPattern(code, "->|::|@|\\.stream|\\.equals\\(|hashCode|toString|\\.length\\(\\)\\s*\\+\\s*\"");
        noPattern(code, "\"\\s*\\+|\\+\\s*\"");
        importsAreAllowed(code);
        staticFieldsAreFinal(code);
        methodsAreShort(code);
        CHECK.finish();
    }

    private static String withoutComments(String s) {
        return s.replaceAll("(?s)/\\*.*?\\*/", "").replaceAll("//[^\\n]*", "");
    }

    private static void noWord(String code, String words) {
        noPattern(code, "\\b(" + words + ")\\b");
    }

    private static void noPattern(String code, String pattern) {
        Matcher m = Pattern.compile(pattern).matcher(code);
        boolean found = m.find();
        CHECK.due("no " + pattern + (found ? ": " + code.substring(m.start(), Math.min(code.length(), m.start() + 40)) : ""), found, false);
    }

    private static void importsAreAllowed(String code) {
        Matcher m = Pattern.compile("import ([^;]+);").matcher(code);
        while (m.find()) {
            CHECK.due("import " + m.group(1), m.group(1).equals("java.util.Arrays"), true);
        }
        noPattern(code, "\\bjava\\.(?!util\\.Arrays)");
        noPattern(code, "Arrays\\.(?!fill|copyOf)");
    }

    private static void staticFieldsAreFinal(String code) {
        Matcher m = Pattern.compile("static (?!final|int \\w+\\(|boolean \\w+\\(|long \\w+\\(|void \\w+\\()[^;{]*[;{]").matcher(code);
        while (m.find()) {
            CHECK.due("static, but not final: " + m.group(), false, true);
        }
        noPattern(code, "static\\s*\\{");
    }

    /** Each method from its head at four or eight blanks to its closing brace at as many. */
    private static void methodsAreShort(String code) {
        String[] lines = code.split("\n");
        for (int i = 0; i < lines.length; i++) {
            Matcher head = Pattern.compile("^( {4}| {8})(?! )[\\w\\[\\] ]+\\([^)]*\\) \\{$").matcher(lines[i]);
            if (!head.find()) {
                continue;
            }
            int j = i;
            while (j < lines.length && !lines[j].equals(head.group(1) + "}")) {
                j++;
            }
            CHECK.due("sixty lines at most: " + lines[i].trim(), j - i + 1 <= 60, true);
        }
    }
}
