import java.lang.reflect.Constructor;
import java.lang.reflect.Field;
import java.lang.reflect.Method;
import java.lang.reflect.Modifier;
import java.util.Set;
import java.util.TreeSet;

/** The public face: exactly the constants, constructor and methods of the document, and nothing else that is seen. */
public final class FaceTest {
    private static final Due due = new Due();

    public static void main(String[] args) {
        constants();
        members();
        due.end();
    }

    private static void constants() {
        due.is("NOBODY", ChaseTable.NOBODY, 0);
        due.is("GUARDS", ChaseTable.GUARDS, 1);
        due.is("THIEF", ChaseTable.THIEF, 2);
        due.is("BAD_PLACE", ChaseTable.BAD_PLACE, -1);
        due.is("BAD_MOVE", ChaseTable.BAD_MOVE, -2);
        due.is("FOREVER", ChaseTable.FOREVER, -3);
    }

    private static void members() {
        Set<String> want = Set.of(
            "public static final int NOBODY", "public static final int GUARDS", "public static final int THIEF",
            "public static final int BAD_PLACE", "public static final int BAD_MOVE", "public static final int FOREVER",
            "public ChaseTable(int)", "public int door(int,int,boolean)", "public int exit(int,boolean)",
            "public int set(int,int,int,boolean)", "public int play(int)", "public int board()",
            "public int outcome(int,int,int,boolean)", "public int length(int,int,int,boolean)", "public int best()",
            "public int total(int)", "public int longest(int)");
        Set<String> got = new TreeSet<>();
        Set<String> publicNames = new TreeSet<>();
        for (Field field : ChaseTable.class.getDeclaredFields()) {
            if (!Modifier.isPrivate(field.getModifiers())) got.add(plain(field.toString()));
        }
        for (Constructor<?> made : ChaseTable.class.getDeclaredConstructors()) got.add(plain(made.toString()));
        for (Method method : ChaseTable.class.getDeclaredMethods()) {
            if (Modifier.isPrivate(method.getModifiers())) continue;
            got.add(plain(method.toString()));
            publicNames.add(method.getName());
        }
        due.isTrue("the face is " + new TreeSet<>(want) + ", found " + got, got.equals(want));
        for (Method method : ChaseTable.class.getDeclaredMethods()) {
            boolean hidden = Modifier.isPrivate(method.getModifiers());
            due.isTrue(method + " has a name of its own", !hidden || !publicNames.contains(method.getName()));
        }
        due.isTrue("the class is public and final",
            ChaseTable.class.getModifiers() == (Modifier.PUBLIC | Modifier.FINAL));
        due.is("nested classes", ChaseTable.class.getDeclaredClasses().length, 0);
    }

    private static String plain(String member) {
        return member.replace("ChaseTable.", "");
    }
}
