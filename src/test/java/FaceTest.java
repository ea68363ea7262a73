import java.lang.reflect.Constructor;
import java.lang.reflect.Field;
import java.lang.reflect.Method;
import java.lang.reflect.Modifier;
import java.util.Set;
import java.util.TreeSet;

/** The class shows the document's public face, and no other member that is not private. */
public final class FaceTest {
    private static final Set<String> FACE = Set.of(
        "public static final int SandpileLab.BAD",
        "public SandpileLab()",
        "public boolean SandpileLab.edge(int,int,boolean)",
        "public boolean SandpileLab.sink(int,int)",
        "public int SandpileLab.drop(int,int)",
        "public int SandpileLab.state()",
        "public boolean SandpileLab.set(int)",
        "public int SandpileLab.degree(int)",
        "public boolean SandpileLab.recurrent(int)",
        "public int SandpileLab.order()",
        "public int SandpileLab.neutral()",
        "public int SandpileLab.opposite(int)",
        "public int SandpileLab.groupSum(int,int)",
        "public int SandpileLab.orderOf(int)",
        "public int SandpileLab.recurrentOf(int)");

    public static void main(String[] args) {
        Check check = new Check();
        Class<?> lab = SandpileLab.class;
        check.same("the class is public and final", lab.getModifiers(), Modifier.PUBLIC | Modifier.FINAL);
        check.same("nested classes", lab.getDeclaredClasses().length, 0);
        check.same("BAD", SandpileLab.BAD, -1);
        Set<String> shown = shown(lab);
        for (String member : FACE) {
            check.same(member + " is there", shown.contains(member), true);
        }
        for (String member : shown) {
            check.same(member + " is in the document", FACE.contains(member), true);
        }
        check.end();
    }

    private static Set<String> shown(Class<?> lab) {
        Set<String> shown = new TreeSet<>();
        for (Field field : lab.getDeclaredFields()) {
            if (!Modifier.isPrivate(field.getModifiers())) {
                shown.add(field.toGenericString());
            }
        }
        for (Constructor<?> constructor : lab.getDeclaredConstructors()) {
            if (!Modifier.isPrivate(constructor.getModifiers())) {
                shown.add(constructor.toGenericString());
            }
        }
        for (Method method : lab.getDeclaredMethods()) {
            if (!Modifier.isPrivate(method.getModifiers())) {
                shown.add(method.toGenericString());
            }
        }
        return shown;
    }
}
