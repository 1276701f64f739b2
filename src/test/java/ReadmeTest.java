import java.io.File;
import java.lang.reflect.Field;
import java.lang.reflect.Method;
import java.lang.reflect.Modifier;
import java.nio.file.Files;
import java.nio.file.Path;
import java.util.regex.Matcher;
import java.util.regex.Pattern;

/** README.md says nothing of the class that is not so, and leaves out no call and no test. Run from the project. */
public final class ReadmeTest {
    private static final Due due = new Due();
    private static final Pattern MADE = Pattern.compile("ChaseTable chase = new ChaseTable\\((\\d+)\\);.*");
    private static final Pattern CALL = Pattern.compile("chase\\.(\\w+)\\((.*)\\); +// (-?\\w+).*");

    public static void main(String[] args) throws Exception {
        String text = Files.readString(Path.of("README.md"));
        example(text);
        constantRows(text);
        callRows(text);
        testRows(text);
        due.end();
    }

    /** Every line of the example is either understood here or not as due, so that none goes unlooked at. */
    private static void example(String text) throws Exception {
        Matcher block = Pattern.compile("```java\n(.*?)```", Pattern.DOTALL).matcher(text);
        due.isTrue("there is an example", block.find());
        String[] lines = block.group(1).split("\n");
        Matcher made = MADE.matcher(lines[0]);
        due.isTrue("the example begins with a new object", made.matches());
        ChaseTable chase = new ChaseTable(Integer.parseInt(made.group(1)));
        for (int i = 1; i < lines.length; i++) {
            Matcher call = CALL.matcher(lines[i]);
            boolean understood = call.matches();
            due.isTrue("a call and its answer: " + lines[i], understood);
            if (understood) due.is(lines[i], answer(chase, call.group(1), call.group(2)), number(call.group(3)));
        }
    }

    private static int answer(ChaseTable chase, String name, String given) throws Exception {
        String[] words = given.isEmpty() ? new String[0] : given.split(", ");
        Object[] values = new Object[words.length];
        for (int i = 0; i < words.length; i++) {
            if (words[i].equals("true") || words[i].equals("false")) values[i] = words[i].equals("true");
            else values[i] = number(words[i].replace("ChaseTable.", ""));
        }
        return (Integer) methodNamed(name).invoke(chase, values);
    }

    private static Method methodNamed(String name) {
        for (Method method : ChaseTable.class.getMethods()) if (method.getName().equals(name)) return method;
        throw new IllegalArgumentException("README.md calls " + name + ", and there is no such method");
    }

    private static int number(String word) throws Exception {
        return word.matches("-?\\d+") ? Integer.parseInt(word) : ChaseTable.class.getField(word).getInt(null);
    }

    private static void constantRows(String text) throws Exception {
        for (Field field : ChaseTable.class.getFields()) {
            String row = "| `" + field.getName() + "` | " + field.getInt(null) + " | ";
            due.isTrue("a row that begins " + row, text.contains("\n" + row));
        }
    }

    private static void callRows(String text) {
        due.isTrue("a row for the constructor", text.contains("\n| `ChaseTable(waits)` | "));
        for (Method method : ChaseTable.class.getDeclaredMethods()) {
            if (!Modifier.isPublic(method.getModifiers())) continue;
            Matcher row = Pattern.compile("\n\\| `" + method.getName() + "\\((.*?)\\)` \\| ").matcher(text);
            boolean there = row.find();
            due.isTrue("a row for " + method.getName(), there);
            if (!there) continue;
            int named = row.group(1).isEmpty() ? 0 : row.group(1).split(", ").length;
            due.is("arguments in the row for " + method.getName(), named, method.getParameterCount());
        }
    }

    private static void testRows(String text) {
        for (File file : new File("src/test/java").listFiles()) {
            String name = file.getName().replace(".java", "");
            if (name.endsWith("Test")) due.isTrue("a row for " + name, text.contains("\n| `" + name + "` | "));
        }
        Matcher row = Pattern.compile("\n\\| `(\\w+Test)` \\| ").matcher(text);
        while (row.find()) {
            due.isTrue(row.group(1) + " is there", new File("src/test/java/" + row.group(1) + ".java").isFile());
        }
    }
}
