import java.lang.reflect.Constructor;
import java.lang.reflect.Field;
import java.lang.reflect.Method;
import java.lang.reflect.Modifier;
import java.util.Arrays;
import java.util.Set;
import java.util.TreeSet;

/** The public face: just the document's constants, constructor and methods, and nothing else that others can see. */
final class FaceTest {
    public static void main(String[] args) {
        Set<String> due = new TreeSet<>(Arrays.asList(
                "field BAD", "field FULL", "field NONE", "field WRONG", "constructor 0",
                "type 4", "upper 2", "permit 2", "member 6", "faults 1", "fault 3", "all 0", "is 2", "runs 3",
                "call 4", "told 1"));
        Set<String> seen = new TreeSet<>();
        for (Field field : ClassRules.class.getDeclaredFields()) {
            int modifiers = field.getModifiers();
            if (!Modifier.isPrivate(modifiers)) {
                seen.add("field " + field.getName());
                Due.same(field + " is a public constant of int", publicConstant(field) ? 1 : 0, 1);
            } else {
                Due.same(field + " is final", Modifier.isFinal(modifiers) ? 1 : 0, 1);
            }
        }
        for (Constructor<?> constructor : ClassRules.class.getDeclaredConstructors()) {
            seen.add("constructor " + constructor.getParameterCount());
            Due.same(constructor + " is public", Modifier.isPublic(constructor.getModifiers()) ? 1 : 0, 1);
        }
        for (Method method : ClassRules.class.getDeclaredMethods()) {
            if (Modifier.isPrivate(method.getModifiers())) {
                Due.same(method + " bears a public name", publicName(due, method.getName()) ? 1 : 0, 0);
            } else {
                seen.add(method.getName() + " " + method.getParameterCount());
                Due.same(method + " is public, of ints alone", ofInts(method) ? 1 : 0, 1);
            }
        }
        Due.same("the face " + seen, seen.equals(due) ? 1 : 0, 1);
        Due.same("public and final", Modifier.toString(ClassRules.class.getModifiers()).equals("public final") ? 1 : 0, 1);
        for (Class<?> inner : ClassRules.class.getDeclaredClasses()) {
            int modifiers = inner.getModifiers();
            Due.same(inner + " is static", Modifier.isStatic(modifiers) ? 1 : 0, 1);
            Due.same(inner + " is seen from outside",
                    Modifier.isPublic(modifiers) || Modifier.isProtected(modifiers) ? 1 : 0, 0);
        }
        Due.same("BAD", ClassRules.BAD, -1);
        Due.same("FULL", ClassRules.FULL, -2);
        Due.same("NONE", ClassRules.NONE, -3);
        Due.same("WRONG", ClassRules.WRONG, -4);
        Due.end();
    }

    private static boolean publicConstant(Field field) {
        return field.getType() == int.class && Modifier.toString(field.getModifiers()).equals("public static final");
    }

    private static boolean publicName(Set<String> due, String name) {
        return due.stream().anyMatch(d -> d.startsWith(name + " "));
    }

    private static boolean ofInts(Method method) {
        return Modifier.toString(method.getModifiers()).equals("public") && method.getReturnType() == int.class
                && Arrays.stream(method.getParameterTypes()).allMatch(p -> p == int.class);
    }
}
