import java.lang.reflect.Constructor;
import java.lang.reflect.Field;
import java.lang.reflect.Member;
import java.lang.reflect.Method;
import java.lang.reflect.Modifier;
import java.util.TreeSet;

/** 'The public face': the members of the document, and no other one that is not private. */
public final class FaceTest {
    public static void main(String[] args) {
        TreeSet<String> seen = new TreeSet<>();
        for (Constructor<?> made : BitMatrix8.class.getDeclaredConstructors()) {
            note(seen, made, made.toString());
        }
        for (Method method : BitMatrix8.class.getDeclaredMethods()) {
            note(seen, method, method.toString());
        }
        for (Field field : BitMatrix8.class.getDeclaredFields()) {
            note(seen, field, field.toString());
        }
        TreeSet<String> want = new TreeSet<>();
        want.add("public BitMatrix8()");
        want.add("public int BitMatrix8.setRow(int,int)");
        want.add("public long BitMatrix8.transpose()");
        want.add("public long BitMatrix8.flipV()");
        want.add("public int BitMatrix8.row(int)");
        System.out.println("members: " + seen);
        Checks.due("members as in the document (1 for yes)", seen.equals(want) ? 1 : 0, 1);
        int kind = Modifier.PUBLIC | Modifier.FINAL;
        Checks.due("modifiers of the class", BitMatrix8.class.getModifiers() & (kind | Modifier.ABSTRACT), kind);
        Checks.due("nested classes", BitMatrix8.class.getDeclaredClasses().length, 0);
        Checks.finish();
    }

    private static void note(TreeSet<String> seen, Member member, String text) {
        if (!Modifier.isPrivate(member.getModifiers())) {
            seen.add(text);
        }
    }
}
