import java.lang.reflect.Member;
import java.lang.reflect.Method;
import java.lang.reflect.Modifier;
import java.util.ArrayList;
import java.util.List;
import java.util.Set;
import java.util.TreeSet;

/** 'The public face': the members of the document, and no other one that is not private. */
public final class FaceTest {
    private static final Class<?> FACE = BitMatrix8.class;
    private static final Set<String> MEMBERS = Set.of(
        "public BitMatrix8()",
        "public int BitMatrix8.setRow(int,int)",
        "public long BitMatrix8.transpose()",
        "public long BitMatrix8.flipV()",
        "public int BitMatrix8.row(int)");

    public static void main(String[] args) {
        Checks.sentence("the class is public and final, and extends nothing", FaceTest::isPlainClass);
        Checks.sentence("each member of the face is there", FaceTest::hasEachMember);
        Checks.sentence("no public, protected or package-visible member beyond these", FaceTest::hasNoOther);
        Checks.sentence("no private method bears the name of a public one", FaceTest::namesStayApart);
        Checks.finish();
    }

    private static void isPlainClass() {
        int kind = Modifier.PUBLIC | Modifier.FINAL;
        Checks.due("modifiers of the class", FACE.getModifiers(), kind);
        Checks.due("extends Object (1 for yes)", FACE.getSuperclass() == Object.class ? 1 : 0, 1);
        Checks.due("interfaces", FACE.getInterfaces().length, 0);
        Checks.due("nested classes", FACE.getDeclaredClasses().length, 0);
    }

    private static void hasEachMember() {
        for (String member : MEMBERS) {
            Checks.due("'" + member + "' is there (1 for yes)", seenMembers().contains(member) ? 1 : 0, 1);
        }
    }

    private static void hasNoOther() {
        for (String member : seenMembers()) {
            Checks.due("'" + member + "' is in the document (1 for yes)", MEMBERS.contains(member) ? 1 : 0, 1);
        }
    }

    private static Set<String> seenMembers() {
        List<Member> members = new ArrayList<>();
        members.addAll(List.of(FACE.getDeclaredConstructors()));
        members.addAll(List.of(FACE.getDeclaredMethods()));
        members.addAll(List.of(FACE.getDeclaredFields()));
        Set<String> seen = new TreeSet<>();
        for (Member member : members) {
            if (!Modifier.isPrivate(member.getModifiers())) {
                seen.add(member.toString());
            }
        }
        return seen;
    }

    private static void namesStayApart() {
        Set<String> names = new TreeSet<>();
        for (Method method : FACE.getDeclaredMethods()) {
            Checks.due("'" + method.getName() + "' is new (1 for yes)", names.add(method.getName()) ? 1 : 0, 1);
        }
    }
}
