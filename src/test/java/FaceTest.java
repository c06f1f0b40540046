import java.lang.reflect.Constructor;
import java.lang.reflect.Field;
import java.lang.reflect.Method;
import java.lang.reflect.Modifier;
import java.util.ArrayList;
import java.util.List;

/** The public face: what the document lists is there, and nothing else can be seen. */
public final class FaceTest {
    private static final List<String> DUE = List.of(
            "public static final int BAD_PROCESS",
            "public static final int BAD_KIND",
            "public static final int NO_ITEM",
            "public ProcessNetwork()",
            "public int set(int,int,int,int)",
            "public int fire(int,int)",
            "public int exchange(int,int)",
            "public int length(int)",
            "public int item(int,int)",
            "public int sum(int)",
            "public int find(int,int)",
            "public boolean same(int,int)",
            "public int full()");

    public static void main(String[] args) {
        Checks checks = new Checks();
        Class<?> face = ProcessNetwork.class;
        checks.answer("public final class", face.getModifiers(), Modifier.PUBLIC | Modifier.FINAL);
        checks.answer("nested classes", face.getDeclaredClasses().length, 0);
        List<String> seen = visibleMembers(face);
        for (String member : DUE) {
            checks.answer("there is " + member, seen.contains(member), true);
        }
        for (String member : seen) {
            checks.answer("the document has " + member, DUE.contains(member), true);
        }
        checks.answer("BAD_PROCESS", ProcessNetwork.BAD_PROCESS, -1);
        checks.answer("BAD_KIND", ProcessNetwork.BAD_KIND, -2);
        checks.answer("NO_ITEM", ProcessNetwork.NO_ITEM, -3);
        checks.end();
    }

    private static List<String> visibleMembers(Class<?> face) {
        List<String> members = new ArrayList<>();
        for (Field field : face.getDeclaredFields()) {
            if (!Modifier.isPrivate(field.getModifiers())) {
                members.add(field.toGenericString().replace("ProcessNetwork.", ""));
            }
        }
        for (Constructor<?> constructor : face.getDeclaredConstructors()) {
            members.add(constructor.toGenericString());
        }
        for (Method method : face.getDeclaredMethods()) {
            if (!Modifier.isPrivate(method.getModifiers())) {
                members.add(method.toGenericString().replace("ProcessNetwork.", ""));
            }
        }
        return members;
    }
}
