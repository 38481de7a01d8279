import java.lang.reflect.Constructor;
import java.lang.reflect.Field;
import java.lang.reflect.Method;
import java.lang.reflect.Modifier;
import java.util.Arrays;
import java.util.Set;
import java.util.TreeSet;

/** The public face: what the document names, and no other member that is not private. */
public final class FaceTest {
    private static final String[] FACE = {
        "BAD_PERIOD=-1", "BAD_LENGTH=-2", "BAD_OFFSET=-3", "FULL=-4", "NO_ROOM=-5", "NO_JOB=-6", "BAD_TIME=-7",
        "new()",
        "int admit(int, int)", "int admitAt(int, int, int)", "int remove(int)", "int offset(int)",
        "int running(int)", "int free(int, int)", "int starts(int, int, int)", "int nextStart(int)",
        "int room(int)", "int load()",
    };

    public static void main(String[] args) throws Exception {
        Due due = new Due("FaceTest");
        Set<String> want = new TreeSet<>(Arrays.asList(FACE));
        Set<String> got = membersNotPrivate();
        for (String member : want) {
            due.due("has " + member, got.contains(member) ? 1 : 0, 1);
        }
        for (String member : got) {
            due.due("is named by the document: " + member, want.contains(member) ? 1 : 0, 1);
        }
        int modifiers = StrictOffsets.class.getModifiers();
        due.due("is public and final", Modifier.isPublic(modifiers) && Modifier.isFinal(modifiers) ? 1 : 0, 1);
        due.end();
    }

    private static Set<String> membersNotPrivate() throws Exception {
        Set<String> members = new TreeSet<>();
        for (Field field : StrictOffsets.class.getDeclaredFields()) {
            if (!Modifier.isPrivate(field.getModifiers())) {
                members.add(prefix(field.getModifiers(), "public static final ") + field.getName() + "=" + field.get(null));
            }
        }
        for (Constructor<?> constructor : StrictOffsets.class.getDeclaredConstructors()) {
            members.add(prefix(constructor.getModifiers(), "public ") + "new" + list(constructor.getParameterTypes()));
        }
        for (Method method : StrictOffsets.class.getDeclaredMethods()) {
            if (!Modifier.isPrivate(method.getModifiers())) {
                members.add(prefix(method.getModifiers(), "public ") + method.getReturnType() + " "
                        + method.getName() + list(method.getParameterTypes()));
            }
        }
        return members;
    }

    /** Empty for the modifiers that the document gives; others make the member's text a wrong one. */
    private static String prefix(int modifiers, String due) {
        String got = Modifier.toString(modifiers) + " ";
        return got.equals(due) ? "" : got;
    }

    private static String list(Class<?>[] types) {
        StringBuilder text = new StringBuilder("(");
        for (Class<?> type : types) {
            text.append(text.length() > 1 ? ", " : "").append(type.getName());
        }
        return text.append(")").toString();
    }
}
