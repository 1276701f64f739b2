import java.nio.file.Files;
import java.nio.file.Path;
import java.util.ArrayDeque;
import java.util.Deque;
import java.util.Map;
import java.util.TreeMap;
import java.util.regex.Matcher;
import java.util.regex.Pattern;

/** What can be seen in the program's text of the rules of LANGUAGE.md. Run from the project's directory. */
public final class LanguageTest {
    private static final Due due = new Due();

    public static void main(String[] args) throws Exception {
        String text = Files.readString(Path.of("src/main/java/ChaseTable.java"));
        String code = text.replaceAll("(?s)/\\*.*?\\*/", " ").replaceAll("//[^\n]*", " ");
        wordsAndSigns(code);
        fields(code);
        loops(code);
        Map<String, String> methods = methods(code);
        for (String name : methods.keySet()) sizes(name, methods.get(name));
        depths(methods);
        due.end();
    }

    /** Rules 1 to 3 and 6. */
    private static void wordsAndSigns(String code) {
        String[] banned = {
            "package", "import", "float", "double", "null", "throw", "throws", "try", "catch", "synchronized", "assert",
            "instanceof", "enum", "record", "interface", "protected", "var", "extends", "implements", "super"};
        for (String word : banned) {
            due.isTrue("no " + word, !Pattern.compile("\\b" + word + "\\b").matcher(code).find());
        }
        for (String sign : new String[] {"->", "::", "\"", "[][]", "@"}) due.isTrue("no " + sign, !code.contains(sign));
        due.is("classes", count("\\bclass\\b", code), 1);
        // Capitalised names that are not in capitals throughout would be classes.
        due.is("other classes named", count("\\b(?!ChaseTable\\b)[A-Z]\\w*[a-z]\\w*", code), 0);
    }

    /** Rules 4, 5 and 10. */
    private static void fields(String code) {
        due.is("arrays made", count("\\bnew\\b", code),
            count("private final \\w+\\[\\] \\w+ = new \\w+\\[[A-Z_]+\\];", code));
        due.is("static fields that are not int or long constants",
            count("\\bstatic\\b(?! final (int|long) [A-Z_]+ = -?\\d+;)(?! (int|boolean) \\w+\\()", code), 0);
        due.isTrue("at most forty fields",
            count("(?m)^    private (final )?[\\w\\[\\]]+ \\w+( = .*)?;$", code) <= 40);
    }

    /** Rule 8: every loop counts up to a constant. */
    private static void loops(String code) {
        due.is("while loops, which would need a look at their ends", count("\\bwhile\\b", code), 0);
        due.is("loops that do not count up to a constant", count("\\bfor\\b", code)
            - count("\\bfor \\(int (\\w+) = \\d+; (\\w+ && )?\\1 <=? [A-Z]+; \\1\\+\\+\\) \\{", code), 0);
    }

    /** The constructor and the methods by their names, each from its first line to its last. */
    private static Map<String, String> methods(String code) {
        Map<String, String> found = new TreeMap<>();
        Matcher matcher = Pattern.compile("(?ms)^    [\\w ]*?(\\w+)\\([^)]*\\) \\{$.*?^    \\}$").matcher(code);
        while (matcher.find()) {
            due.isTrue("one method named " + matcher.group(1),
                found.put(matcher.group(1), matcher.group()) == null);
        }
        due.is("methods found in the text", found.size(), ChaseTable.class.getDeclaredMethods().length + 1);
        return found;
    }

    /** Rule 10. */
    private static void sizes(String name, String method) {
        String parameters = method.substring(method.indexOf('(') + 1, method.indexOf(')'));
        due.isTrue(name + " takes at most seven parameters", parameters.split(",").length <= 7);
        due.isTrue(name + " has at most sixty lines", method.split("\n").length <= 60);
        due.is(name + " has calls inside the arguments of another call", callsInsideCalls(body(method)), 0);
    }

    private static String body(String method) {
        return method.substring(method.indexOf('{'));
    }

    /** A bracket right behind a name is a call's; those of if, for and of sums stand behind a space or a sign. */
    private static int callsInsideCalls(String body) {
        Deque<Boolean> open = new ArrayDeque<>();
        int found = 0;
        for (int i = 1; i < body.length(); i++) {
            if (body.charAt(i) == ')') open.pop();
            if (body.charAt(i) != '(') continue;
            boolean call = Character.isJavaIdentifierPart(body.charAt(i - 1));
            if (call && open.contains(true)) found++;
            open.push(call);
        }
        return found;
    }

    /** Rules 8 and 10: who calls himself, by whatever way, gets deeper with every pass. */
    private static void depths(Map<String, String> methods) {
        Map<String, Integer> depths = new TreeMap<>();
        for (String name : methods.keySet()) depths.put(name, 1);
        for (int pass = 0; pass < methods.size(); pass++) {
            for (String caller : methods.keySet()) {
                for (String called : methods.keySet()) {
                    if (count("\\b" + called + "\\(", body(methods.get(caller))) == 0) continue;
                    depths.put(caller, Math.max(depths.get(caller), 1 + depths.get(called)));
                }
            }
        }
        for (String name : depths.keySet()) {
            due.isTrue(name + " goes at most six deep, found " + depths.get(name), depths.get(name) <= 6);
        }
    }

    private static int count(String pattern, String code) {
        Matcher matcher = Pattern.compile(pattern).matcher(code);
        int found = 0;
        while (matcher.find()) found++;
        return found;
    }
}
