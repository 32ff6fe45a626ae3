import java.lang.reflect.Constructor;
import java.lang.reflect.Field;
import java.lang.reflect.Method;
import java.lang.reflect.Modifier;
import java.util.Set;
import java.util.TreeSet;

/** The public face: what the document lists, and nothing else that is not private. */
public final class FaceTest {
    private static final Set<String> DUE = Set.of(
            "final int NONE",
            "StageDispatcher()",
            "boolean put(char)",
            "int resource(boolean)",
            "int method(int,int,int,int,int)",
            "boolean detail(int,int,int,int)",
            "int locator(int,int)",
            "int filter(int,int,int,int,int)",
            "boolean mapper(int,int)",
            "boolean accept(int,int)",
            "int request(int,int,int)",
            "int invoked()",
            "int argument()",
            "int hop(int)",
            "int parameter(int,int)",
            "int allowed()",
            "int produced()",
            "int ran(int)");

    public static void main(String[] args) {
        Check check = new Check();
        Class<?> face = StageDispatcher.class;
        Set<String> found = new TreeSet<>();
        for (Field f : face.getDeclaredFields()) {
            if (!Modifier.isPrivate(f.getModifiers())) {
                check.same(f + " modifiers", f.getModifiers(), Modifier.PUBLIC | Modifier.STATIC | Modifier.FINAL);
                found.add("final " + f.getType() + " " + f.getName());
            }
        }
        for (Constructor<?> c : face.getDeclaredConstructors()) {
            check.same(c + " modifiers", c.getModifiers(), Modifier.PUBLIC);
            found.add("StageDispatcher" + types(c.getParameterTypes()));
        }
        for (Method m : face.getDeclaredMethods()) {
            if (!Modifier.isPrivate(m.getModifiers())) {
                check.same(m + " modifiers", m.getModifiers(), Modifier.PUBLIC);
                found.add(m.getReturnType() + " " + m.getName() + types(m.getParameterTypes()));
            }
        }
        for (String member : found) {
            check.yes("due: " + member, DUE.contains(member));
        }
        for (String member : DUE) {
            check.yes("found: " + member, found.contains(member));
        }
        check.yes("the class is final", Modifier.isFinal(face.getModifiers()));
        check.same("NONE", StageDispatcher.NONE, -1);
        check.end();
    }

    private static String types(Class<?>[] types) {
        StringBuilder all = new StringBuilder("(");
        for (Class<?> type : types) {
            all.append(all.length() == 1 ? "" : ",").append(type.getName());
        }
        return all.append(")").toString();
    }
}
