import java.lang.reflect.Constructor;
import java.lang.reflect.Field;
import java.lang.reflect.Method;
import java.lang.reflect.Modifier;
import java.util.Set;
import java.util.TreeSet;

/** The class has the document's members that others can see, no more and no fewer. */
final class FaceTest {
    private static final Set<String> FACE = Set.of(
        "up()", "size()", "members()", "failed()", "growth()", "groups()", "read(int)", "sum()",
        "write(int,int)", "fill(int,int,int,int)", "writeCrash(int,int,int)", "begin()", "step()",
        "stepCrash(int)", "crash()", "mount()", "fail(int)", "replace()", "scrub()");

    private FaceTest() {
    }

    public static void main(String[] args) {
        classItself();
        constructors();
        methods();
        fields();
        Due.finish();
    }

    private static void classItself() {
        Class<?> c = ReshapeArray.class;
        Due.due("class modifiers", c.getModifiers(), Modifier.PUBLIC | Modifier.FINAL);
        Due.due("nested classes", c.getDeclaredClasses().length, 0);
        Due.due("interfaces", c.getInterfaces().length, 0);
        Due.due("extends Object", c.getSuperclass() == Object.class ? 1 : 0, 1);
    }

    private static void constructors() {
        Constructor<?>[] all = ReshapeArray.class.getDeclaredConstructors();
        Due.due("constructors", all.length, 1);
        Due.due("constructor's parameters", all[0].getParameterCount(), 0);
        Due.due("constructor's modifiers", all[0].getModifiers(), Modifier.PUBLIC);
    }

    private static void methods() {
        Set<String> seen = new TreeSet<>();
        Set<String> publicNames = new TreeSet<>();
        for (Method m : ReshapeArray.class.getDeclaredMethods()) {
            if (!Modifier.isPrivate(m.getModifiers())) {
                String call = signature(m);
                seen.add(call);
                publicNames.add(m.getName());
                Due.due("is in the face: " + call, FACE.contains(call) ? 1 : 0, 1);
                Due.due("modifiers of " + call, m.getModifiers(), Modifier.PUBLIC);
                Due.due("answers int: " + call, m.getReturnType() == int.class ? 1 : 0, 1);
            }
        }
        for (String call : FACE) {
            Due.due("is in the class: " + call, seen.contains(call) ? 1 : 0, 1);
        }
        for (Method m : ReshapeArray.class.getDeclaredMethods()) {
            if (Modifier.isPrivate(m.getModifiers())) {
                Due.due("private method with a public one's name: " + m.getName(),
                    publicNames.contains(m.getName()) ? 1 : 0, 0);
            }
        }
    }

    private static String signature(Method m) {
        StringBuilder text = new StringBuilder(m.getName()).append('(');
        String comma = "";
        for (Class<?> type : m.getParameterTypes()) {
            text.append(comma).append(type.getName());
            comma = ",";
        }
        return text.append(')').toString();
    }

    private static void fields() {
        for (Field f : ReshapeArray.class.getDeclaredFields()) {
            Due.due("is private: " + f.getName(), Modifier.isPrivate(f.getModifiers()) ? 1 : 0, 1);
            if (Modifier.isStatic(f.getModifiers())) {
                boolean number = f.getType() == int.class || f.getType() == long.class;
                Due.due("is a number: " + f.getName(), number ? 1 : 0, 1);
                Due.due("is final: " + f.getName(), Modifier.isFinal(f.getModifiers()) ? 1 : 0, 1);
            }
        }
    }
}
