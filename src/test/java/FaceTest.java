import java.lang.reflect.Constructor;
import java.lang.reflect.Field;
import java.lang.reflect.Method;
import java.lang.reflect.Modifier;
import java.util.Set;
import java.util.TreeSet;

/** The public face: every member that the document names, and no other that can be seen. */
public final class FaceTest {
    private static final String[] FACE = {
        "public static final int BAD_ARG", "public static final int FULL",
        "public static final int BAD_STACK", "public static final int NONE",
        "public WeightedReader()",
        "public int letter(int,int)", "public int any(int)", "public int unit()",
        "public int seq()", "public int alt()", "public int loop(int)",
        "public int steps()", "public int depth()", "public void discard()",
        "public int define()", "public int type(int)", "public int put(int,int)",
        "public int shift()", "public int length()", "public int ways(int,int)",
        "public int least(int,int)", "public int most(int,int)", "public int windows()",
        "public int allWays()", "public int longest(int)", "public int cover()",
    };

    public static void main(String[] args) {
        Due due = new Due("FaceTest");
        Set<String> wanted = new TreeSet<>(Set.of(FACE));
        Set<String> found = visibleMembers();
        for (String member : wanted) {
            due.due("has " + member, found.contains(member) ? 1 : 0, 1);
        }
        for (String member : found) {
            due.due("may have " + member, wanted.contains(member) ? 1 : 0, 1);
        }
        int modifiers = WeightedReader.class.getModifiers();
        due.due("public and final", modifiers, Modifier.PUBLIC | Modifier.FINAL);
        due.due("BAD_ARG", WeightedReader.BAD_ARG, -1);
        due.due("FULL", WeightedReader.FULL, -2);
        due.due("BAD_STACK", WeightedReader.BAD_STACK, -3);
        due.due("NONE", WeightedReader.NONE, -4);
        due.finish();
    }

    private static Set<String> visibleMembers() {
        Set<String> found = new TreeSet<>();
        for (Field field : WeightedReader.class.getDeclaredFields()) {
            if (!Modifier.isPrivate(field.getModifiers())) {
                found.add(plain(field.toString()));
            }
        }
        for (Constructor<?> constructor : WeightedReader.class.getDeclaredConstructors()) {
            if (!Modifier.isPrivate(constructor.getModifiers())) {
                found.add(plain(constructor.toString()));
            }
        }
        for (Method method : WeightedReader.class.getDeclaredMethods()) {
            if (!Modifier.isPrivate(method.getModifiers())) {
                found.add(plain(method.toString()));
            }
        }
        return found;
    }

    private static String plain(String member) {
        return member.replace("WeightedReader.", "");
    }
}
