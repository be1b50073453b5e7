import java.lang.reflect.Constructor;
import java.lang.reflect.Field;
import java.lang.reflect.Method;
import java.lang.reflect.Modifier;
import java.util.Arrays;
import java.util.TreeSet;

/** The public face: the document's members, and no other that is not private. */
public final class FaceTest {
    public static void main(String[] args) {
        TreeSet<String> wanted = new TreeSet<>(Arrays.asList(
            "submit(int,int):int", "deliver(int,int):int", "suspect(int,int):int", "crash(int):boolean",
            "timeout(int):int", "node(int,int):int", "held(int,int):int", "depth(int):int", "top(int,int):int",
            "flying(int,int):int", "letter(int,int,int):int", "count(int):int"));
        for (String missing : minus(wanted, openMethods())) {
            Check.due("the method " + missing, 0, 1);
        }
        for (String further : minus(openMethods(), wanted)) {
            Check.due("the further method " + further, 1, 0);
        }
        Check.due("the class is public and final", GroupCast.class.getModifiers(), Modifier.PUBLIC | Modifier.FINAL);
        for (Field field : GroupCast.class.getDeclaredFields()) {
            boolean isNone = field.getName().equals("NONE");
            int open = Modifier.PUBLIC | Modifier.STATIC | Modifier.FINAL;
            Check.due("the field " + field.getName() + " is as open as it should be",
                isNone ? field.getModifiers() == open : Modifier.isPrivate(field.getModifiers()), true);
        }
        Check.due("NONE", GroupCast.NONE, -1);
        Constructor<?>[] constructors = GroupCast.class.getDeclaredConstructors();
        Check.due("constructors", constructors.length, 1);
        Check.due("the constructor is public", constructors[0].getModifiers(), Modifier.PUBLIC);
        Check.due("its parameters are one int",
            Arrays.equals(constructors[0].getParameterTypes(), new Class<?>[] {int.class}), true);
        Check.end();
    }

    private static TreeSet<String> openMethods() {
        TreeSet<String> open = new TreeSet<>();
        for (Method method : GroupCast.class.getDeclaredMethods()) {
            if (!Modifier.isPrivate(method.getModifiers())) {
                String types = Arrays.toString(method.getParameterTypes()).replaceAll("[\\[\\] ]", "");
                open.add(method.getName() + "(" + types + "):" + method.getReturnType());
            }
        }
        return open;
    }

    private static TreeSet<String> minus(TreeSet<String> all, TreeSet<String> some) {
        TreeSet<String> rest = new TreeSet<>(all);
        rest.removeAll(some);
        return rest;
    }
}
