import java.lang.reflect.Constructor;
import java.lang.reflect.Field;
import java.lang.reflect.Method;
import java.lang.reflect.Modifier;
import java.util.Set;
import java.util.TreeSet;

/** The public face is the document's and nothing else is visible from outside the class. */
public final class OmegaDeskFace {
    private static int wrong = 0;

    private static void check(boolean holds, String what) {
        if (!holds) {
            wrong++;
            System.out.println("not so: " + what);
        }
    }

    public static void main(String[] args) {
        checkClass();
        checkConstructors();
        checkMethods();
        checkFields();
        System.out.println(wrong == 0 ? "the face is as due" : wrong + " faults in the face");
        if (wrong != 0) {
            System.exit(1);
        }
    }

    private static void checkClass() {
        int modifiers = OmegaDesk.class.getModifiers();
        check(Modifier.isPublic(modifiers) && Modifier.isFinal(modifiers), "the class is public and final");
        check(OmegaDesk.class.getSuperclass() == Object.class, "the class extends nothing");
        check(OmegaDesk.class.getInterfaces().length == 0, "the class implements nothing");
        check(OmegaDesk.class.getDeclaredClasses().length == 0, "there is no nested class");
    }

    private static void checkConstructors() {
        Constructor<?>[] all = OmegaDesk.class.getDeclaredConstructors();
        check(all.length == 1, "there is one constructor");
        check(all[0].getParameterCount() == 0, "the constructor has no parameter");
        check(Modifier.isPublic(all[0].getModifiers()), "the constructor is public");
    }

    private static void checkMethods() {
        Set<String> due = new TreeSet<>(Set.of(
            "public int OmegaDesk.add(int,int,int,int,boolean)",
            "public int OmegaDesk.drop(int)",
            "public int OmegaDesk.possible()",
            "public int OmegaDesk.first(int)",
            "public int OmegaDesk.extreme(int,boolean)",
            "public int OmegaDesk.with(int,int)",
            "public int OmegaDesk.follows(int,int,int,int)",
            "public int OmegaDesk.spare()"));
        Set<String> visible = new TreeSet<>();
        Set<String> visibleNames = new TreeSet<>();
        for (Method method : OmegaDesk.class.getDeclaredMethods()) {
            if (!Modifier.isPrivate(method.getModifiers())) {
                visible.add(method.toString());
                visibleNames.add(method.getName());
            }
        }
        check(visible.equals(due), "the visible methods are " + due + " but found " + visible);
        for (Method method : OmegaDesk.class.getDeclaredMethods()) {
            if (Modifier.isPrivate(method.getModifiers())) {
                check(!visibleNames.contains(method.getName()), "no private method is named " + method.getName());
                check(method.getParameterCount() <= 7, method.getName() + " has at most seven parameters");
            }
        }
    }

    private static void checkFields() {
        for (Field field : OmegaDesk.class.getDeclaredFields()) {
            int modifiers = field.getModifiers();
            Class<?> type = field.getType();
            check(Modifier.isPrivate(modifiers), field.getName() + " is private");
            if (Modifier.isStatic(modifiers)) {
                check(Modifier.isFinal(modifiers), field.getName() + " is a constant");
                check(type == int.class || type == long.class, field.getName() + " is an int or a long");
            } else {
                Class<?> cell = type.isArray() ? type.getComponentType() : type;
                check(cell.isPrimitive() && cell != float.class && cell != double.class,
                    field.getName() + " is of whole numbers or booleans, in at most one dimension");
            }
        }
    }
}
