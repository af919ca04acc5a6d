import java.lang.reflect.Constructor;
import java.lang.reflect.Field;
import java.lang.reflect.Method;
import java.lang.reflect.Modifier;
import java.util.Arrays;
import java.util.Set;
import java.util.TreeSet;

/** The class has the public face of the document and no other member that can be seen from outside. */
final class FaceTest {
    private static final String[] FACE = {
        "public static final int NetMatcher.BAD",
        "public static final int NetMatcher.FULL",
        "public static final int NetMatcher.NONE",
        "public NetMatcher()",
        "public int NetMatcher.add(int,int,int)",
        "public boolean NetMatcher.remove(int,int)",
        "public boolean NetMatcher.name(int,int,int)",
        "public int NetMatcher.devices(int)",
        "public int NetMatcher.degree(int,int)",
        "public boolean NetMatcher.match()",
        "public int NetMatcher.assigned(int)",
        "public int NetMatcher.matches()",
        "public int NetMatcher.candidates(int)",
        "public int NetMatcher.symmetries(int)",
        "public boolean NetMatcher.exchangeable(int,int,int)",
        "public int NetMatcher.surplus()",
    };

    public static void main(String[] args) {
        Due due = new Due();
        Class<?> type = NetMatcher.class;
        Set<String> seen = new TreeSet<>();
        for (Field field : type.getDeclaredFields()) {
            note(seen, field.getModifiers(), field.toString());
        }
        for (Constructor<?> constructor : type.getDeclaredConstructors()) {
            note(seen, constructor.getModifiers(), constructor.toString());
        }
        for (Method method : type.getDeclaredMethods()) {
            note(seen, method.getModifiers(), method.toString());
        }
        Set<String> want = new TreeSet<>(Arrays.asList(FACE));
        due.is("members seen " + seen + " as in the document", seen.equals(want), true);
        due.is("the class is public and final", type.getModifiers(), Modifier.PUBLIC | Modifier.FINAL);
        due.is("nested classes", type.getDeclaredClasses().length, 0);
        due.is("BAD", NetMatcher.BAD, -1);
        due.is("FULL", NetMatcher.FULL, -2);
        due.is("NONE", NetMatcher.NONE, -1);
        due.end();
    }

    private static void note(Set<String> seen, int modifiers, String member) {
        if (!Modifier.isPrivate(modifiers)) {
            seen.add(member);
        }
    }
}
