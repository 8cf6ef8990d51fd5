import java.io.IOException;
import java.nio.file.Files;
import java.nio.file.Path;
import java.util.regex.Matcher;
import java.util.regex.Pattern;

/**
 * What of ../shared/LANGUAGE.md can be seen in the text of ChipVolts.java.
 * The first argument is the file.
 */
public final class RulesTest {
    private static final String[] NEVER = {
        "\\b(throw|throws|try|catch|synchronized|assert|import|package|native|volatile|instanceof)\\b",
        "->", "::", "Exact\\b", "@", "\"", "\\bwhile\\b", "[^\\x20-\\x7e\\n]",
        "\\b(Object|Random|Thread|Exception|Error|Optional|Map|HashMap|Set|Iterator|var)\\b",
        "\\b(equals|hashCode|toString)\\b", "\\b(Long|Integer|Math|System)\\.(?!bitCount|abs|min|max|arraycopy)"};
    private static final Pattern HEAD =
            Pattern.compile("^( {4}| {8})((?:public|private|static)\\s.*)?\\b(\\w+)\\((.*)\\) \\{$");

    private RulesTest() {
    }

    public static void main(String[] args) throws IOException {
        String text = Files.readString(Path.of(args[0]));
        String code = text.replaceAll("(?s)/\\*.*?\\*/", "").replaceAll("//[^\n]*", "");
        for (String never : NEVER) {
            Matcher m = Pattern.compile(never).matcher(code);
            Due.due("no " + never, m.find() ? 1 : 0, 0);
        }
        methods(text.split("\n"));
        Due.end("RulesTest");
    }

    /** Methods are short, and only constructors make objects: a call takes no room. */
    private static void methods(String[] lines) {
        int methods = 0;
        for (int i = 0; i < lines.length; i++) {
            Matcher m = HEAD.matcher(lines[i]);
            if (!m.find() || m.group(2) == null) {
                continue;
            }
            methods++;
            int end = i;
            boolean makes = false;
            while (!lines[end].equals(m.group(1) + "}")) {
                makes |= lines[end].contains("new ");
                end++;
            }
            Due.due(m.group(3) + " is short", end - i + 1 <= 60 ? 1 : 0, 1);
            boolean isConstructor = Character.isUpperCase(m.group(3).charAt(0));
            Due.due(m.group(3) + " makes nothing", makes && !isConstructor ? 1 : 0, 0);
        }
        Due.due("methods were found", methods > 40 ? 1 : 0, 1);
    }
}
