import java.io.IOException;
import java.nio.file.Files;
import java.nio.file.Path;
import java.util.regex.Matcher;
import java.util.regex.Pattern;

/** What LANGUAGE.md rules out and can be seen in the text: it does not stand in the class's source. */
public final class LanguageTest {
    private static final String[] RULED_OUT = {
        "\\bthrow\\b", "\\bthrows\\b", "\\btry\\b", "\\bcatch\\b", "\\bfinally\\b", "\\bsynchronized\\b", "\\bassert\\b",
        "->", "::", "\\w+Exact\\b", "\\bpackage\\b", "\\bprotected\\b", "\\bvolatile\\b", "\\bnative\\b",
        "\\bvar\\b", "\\bObject\\b", "\\bSystem\\.(?!arraycopy\\b)", "\\bArrays\\.(?!copyOf\\b|copyOfRange\\b|fill\\b)",
        "\\bMath\\.(?!max\\b|min\\b|abs\\b|floorDiv\\b|floorMod\\b)", "\\bstatic\\s*\\{", "\\bhashCode\\b", "\\btoString\\b",
        "\\bwhile\\s*\\(\\s*true\\b", "\\bfor\\s*\\(\\s*;", "\\bThread\\b", "\\bRandom\\b", "[^\\x00-\\xff]",
        "\\bArrays\\.\\w+\\([^;]*\\b(true|false|null)\\b"};

    public static void main(String[] args) throws IOException {
        String source = Files.readString(Path.of("src/main/java/SmokeLedger.java"));
        String code = source.replaceAll("(?s)/\\*.*?\\*/", " ").replaceAll("//[^\n]*", " ");
        for (String rule : RULED_OUT) {
            Matcher matcher = Pattern.compile(rule).matcher(code);
            Due.holds("nothing like " + rule, !matcher.find());
        }
        Matcher imports = Pattern.compile("\\bimport\\s+([\\w.*]+)").matcher(code);
        while (imports.find()) {
            Due.holds("import " + imports.group(1), imports.group(1).equals("java.util.Arrays"));
        }
        int classes = 0;
        Matcher declared = Pattern.compile("\\b(class|record|enum|interface)\\s+\\w+").matcher(code);
        while (declared.find()) {
            classes++;
        }
        Due.holds("some twelve classes at most", classes <= 12);
        Due.finish();
    }
}
