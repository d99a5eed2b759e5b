import java.io.IOException;
import java.nio.file.Files;
import java.nio.file.Path;
import java.util.regex.Matcher;
import java.util.regex.Pattern;

/** Words of Java that ../shared/LANGUAGE.md leaves out are not in the class. */
public final class LanguageTest {
    private static final String[] LEFT_OUT = {
        "\\bthrow\\b", "\\bthrows\\b", "\\btry\\b", "\\bcatch\\b", "\\bsynchronized\\b", "\\bassert\\b",
        "->", "::", "\\bimport\\b", "\\bpackage\\b", "\\bprotected\\b", "\\bSystem\\s*\\.\\s*(?!arraycopy)",
        "Exact\\b", "\\bnative\\b", "\\bvolatile\\b", "\\bObject\\b", "\\bvar\\b", "\\bstatic\\s*\\{",
        "\\bstatic\\s+(?!final\\b)[\\w\\[\\]]+\\s+\\w+\\s*[=;]", "\\bclass\\b(?<!static final class)(?<!public final class)",
    };

    public static void main(String[] args) throws IOException {
        String source = Files.readString(Path.of(System.getProperty("source")));
        String code = source.replaceAll("(?s)/\\*.*?\\*/", "").replaceAll("//[^\n]*", "");
        for (String word : LEFT_OUT) {
            Matcher matcher = Pattern.compile(word).matcher(code);
            Due.is("places of " + word, matcher.results().count(), 0);
        }
        Due.is("characters beyond 255", source.chars().filter(c -> c > 255).count(), 0);
        Due.end();
    }
}
