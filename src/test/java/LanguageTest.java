import java.io.IOException;
import java.nio.file.Files;
import java.nio.file.Path;
import java.util.regex.Matcher;
import java.util.regex.Pattern;

/** Words that ../shared/LANGUAGE.md keeps out of the program (run from the project's folder). */
public final class LanguageTest {
    private static final String[] BANNED = {
        "\\b(throw|throws|try|catch|finally|synchronized|assert|import|package|protected|native|volatile)\\b",
        "->", "::", "\\bObject\\b", "\\bSystem\\.(?!arraycopy\\b)", "Exact\\b", "\\bhashCode\\b", "\\btoString\\b",
        "\\bRandom\\b", "\\bThread\\b", "\\bMath\\.random\\b", "\\bvar\\b", "\\bpublic (static )?class\\b",
        "\\bstatic \\{", "\\bnew [A-Za-z]+\\([^)]*\\) \\{", "\\b(Integer|Long|Math)\\.[A-Z]", "[^\\x0a\\x20-\\x7e]"};

    public static void main(String[] args) throws IOException {
        String program = Files.readString(Path.of("src/main/java/WallMirror.java"));
        String code = program.replaceAll("(?s)/\\*.*?\\*/", "").replaceAll("//[^\n]*", "");
        for (String banned : BANNED) {
            Matcher found = Pattern.compile(banned).matcher(code);
            Due.due("found " + banned, found.find() ? found.group() : "", "");
        }
        Due.end();
    }
}
