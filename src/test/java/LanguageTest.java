import java.io.IOException;
import java.nio.file.Files;
import java.nio.file.Path;
import java.util.regex.Matcher;
import java.util.regex.Pattern;

/** Words and signs that ../shared/LANGUAGE.md keeps out of the class; it sees no more than these. */
public final class LanguageTest {
    private static final String[] KEPT_OUT = {
        "\\b(throw|throws|try|catch|finally|synchronized|assert|import|package|native|volatile|transient)\\b",
        "->", "::", "\\w+Exact\\b", "\\bSystem\\.(?!arraycopy\\b)", "\\b(equals|hashCode|toString)\\s*\\(", "\\bstatic\\s*\\{",
        "\\bstatic\\s+(?!final\\b)[\\w\\[\\]<>]+\\s+\\w+\\s*[=;]", "\\bnew\\s+\\w+\\s*\\([^;{]*\\)\\s*\\{", "\\b(Object|Thread|Random)\\b",
        "[^\\x00-\\x7f]"};

    public static void main(String[] args) throws IOException {
        String code = Files.readString(Path.of("src/main/java/StairBows.java")).replaceAll("(?s)/\\*.*?\\*/|//[^\\n]*", " ");
        for (String pattern : KEPT_OUT) {
            Matcher matcher = Pattern.compile(pattern).matcher(code);
            String found = matcher.find() ? matcher.group() : "";
            Due.isTrue("the class keeps to the language, without " + found, found.isEmpty());
        }
        Due.end();
    }
}
