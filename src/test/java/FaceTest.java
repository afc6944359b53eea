import java.lang.reflect.Constructor;
import java.lang.reflect.Field;
import java.lang.reflect.Method;
import java.lang.reflect.Modifier;
import java.util.Set;
import java.util.TreeSet;

/** The class shows just the face of the document and keeps to LANGUAGE.md's rules on members. */
public final class FaceTest {
    private static final String[] FACE = {
        "public PathOram(int)",
        "public int PathOram.add(int,int)",
        "public int PathOram.audit()",
        "public int PathOram.below(int)",
        "public int PathOram.copy(int,int)",
        "public int PathOram.differing(int)",
        "public int PathOram.exchange(int,int)",
        "public int PathOram.fill(int,int,int,int)",
        "public int PathOram.find(int,int)",
        "public int PathOram.load(int)",
        "public int PathOram.ranked(int)",
        "public int PathOram.read(int)",
        "public int PathOram.rotate(int)",
        "public int PathOram.save(int)",
        "public int PathOram.sum()",
        "public int PathOram.touched()",
        "public int PathOram.write(int,int)",
        "public void PathOram.stir(int)"
    };

    private static int wrong = 0;

    private static void hold(boolean holds, String what) {
        if (!holds) {
            wrong++;
            System.out.println("does not hold: " + what);
        }
    }

    private static Set<String> openMembers() {
        Set<String> open = new TreeSet<>();
        for (Constructor<?> c : PathOram.class.getDeclaredConstructors()) {
            open.add(c.toString());
        }
        for (Method m : PathOram.class.getDeclaredMethods()) {
            if (!Modifier.isPrivate(m.getModifiers())) {
                open.add(m.toString());
            }
        }
        for (Field f : PathOram.class.getDeclaredFields()) {
            if (!Modifier.isPrivate(f.getModifiers())) {
                open.add(f.toString());
            }
        }
        return open;
    }

    private static void checkPrivateMethods() {
        Set<String> names = new TreeSet<>();
        for (Method m : PathOram.class.getMethods()) {
            names.add(m.getName());
        }
        for (Method m : PathOram.class.getDeclaredMethods()) {
            hold(m.getParameterCount() <= 7, m.getName() + " takes at most seven parameters");
            if (Modifier.isPrivate(m.getModifiers())) {
                hold(!names.contains(m.getName()), m.getName() + " bears no public method's name");
            }
        }
    }

    private static void checkFields() {
        int fields = 0;
        for (Field f : PathOram.class.getDeclaredFields()) {
            Class<?> type = f.getType();
            if (Modifier.isStatic(f.getModifiers())) {
                hold(type == int.class || type == long.class, f.getName() + " is a constant of int or long");
                hold(Modifier.isFinal(f.getModifiers()), f.getName() + " is final");
            } else {
                Class<?> element = type.isArray() ? type.getComponentType() : type;
                boolean whole = element.isPrimitive() && element != float.class && element != double.class;
                hold(whole, f.getName() + " is a whole number, a boolean or an array of these");
                fields++;
            }
        }
        hold(fields <= 40, "at most forty fields beside the constants");
    }

    public static void main(String[] args) {
        int modifiers = PathOram.class.getModifiers();
        hold(Modifier.isPublic(modifiers) && Modifier.isFinal(modifiers), "the class is public and final");
        hold(PathOram.class.getSuperclass() == Object.class, "the class extends no other");
        hold(PathOram.class.getInterfaces().length == 0, "the class implements nothing");
        hold(PathOram.class.getDeclaredClasses().length == 0, "the class has no nested class");
        Set<String> open = openMembers();
        hold(open.equals(new TreeSet<>(Set.of(FACE))), "the face is the document's; it is " + open);
        checkPrivateMethods();
        checkFields();
        System.out.println(wrong == 0 ? "the face is as due" : wrong + " rules of the face are broken");
        if (wrong != 0) {
            System.exit(1);
        }
    }
}
