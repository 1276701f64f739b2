import java.nio.file.Files;
import java.nio.file.Path;
import java.util.regex.Matcher;
import java.util.regex.Pattern;

/** What can be seen in the program's text of the rules of LANGUAGE.md. Run from the project's directory. */
public final class LanguageTest {
    private static final Due due = new Due();

    public static void main(String[] args) throws Exception {
        String text = Files.readString(Path.of("src/main/java/ChaseTable.java"));
        String code = text.replaceAll("(?s)/\\*.*?\\*/", " ").replaceAll("//[^\n]*", " ");
        String[] banned = {
            "package", "import", "float", "double", "null", "throw", "throws", "try", "catch", "synchronized", "assert",
            "instanceof", "enum", "record", "interface", "protected", "var", "extends", "implements", "super"};
        for (String word : banned) {
            due.isTrue("no " + word, !Pattern.compile("\\b" + word + "\\b").matcher(code).find());
        }
        for (String sign : new String[] {"->", "::", "\"", "[][]", "@"}) due.isTrue("no " + sign, !code.contains(sign));
        due.is("classes", count("\\bclass\\b", code), 1);
        // Capitalised names that are not in capitals throughout would be classes.
        due.is("other classes named", count("\\b(?!ChaseTable\\b)[A-Z]\\w*[a-z]\\w*", code), 0);
        due.is("arrays made", count("\\bnew\\b", code),
            count("private final \\w+\\[\\] \\w+ = new \\w+\\[[A-Z_]+\\];", code));
        due.is("static fields that are not int or long constants",
            count("\\bstatic\\b(?! final (int|long) [A-Z_]+ = -?\\d+;)(?! (int|boolean) \\w+\\()", code), 0);
        due.is("while loops, which would need a look at their ends", count("\\bwhile\\b", code), 0);
        due.end();
    }

    private static int count(String pattern, String code) {
        Matcher matcher = Pattern.compile(pattern).matcher(code);
        int found = 0;
        while (matcher.find()) found++;
        return found;
    }
}
