import java.lang.reflect.Constructor;
import java.lang.reflect.Field;
import java.lang.reflect.Method;
import java.lang.reflect.Modifier;
import java.util.Map;
import java.util.TreeMap;
import java.util.TreeSet;

/** The class has the public face of the document, and nothing else that can be seen from outside. */
public final class FaceTest {
    private static final String[] METHODS = {
        "format/1", "unlock/1", "lock/0", "state/0", "read/2", "write/3", "fill/3", "check/1", "digest/0",
        "addKey/1", "removeKey/1", "changeKey/2", "slots/0", "slotOf/1", "renew/1", "toRenew/0",
        "saveSlots/0", "restoreSlots/0", "damage/2", "crash/1", "faults/0"};

    public static void main(String[] args) throws Exception {
        Checks checks = new Checks();
        Class<?> face = SealedVolume.class;
        int modifiers = face.getModifiers();
        checks.yes("class is public and final", Modifier.isPublic(modifiers) && Modifier.isFinal(modifiers));
        checks.yes("class has no nested class", face.getDeclaredClasses().length == 0);
        checkConstants(checks, face);
        checkMethods(checks, face);
        Constructor<?>[] made = face.getDeclaredConstructors();
        checks.yes("one constructor", made.length == 1);
        checks.yes("it is public, without arguments",
            Modifier.isPublic(made[0].getModifiers()) && made[0].getParameterCount() == 0);
        checks.end();
    }

    private static void checkConstants(Checks checks, Class<?> face) throws Exception {
        String[] names = {"BAD", "NONE", "LOCKED", "WRONG", "BUSY", "EXISTS", "FULL", "LAST", "STALE", "DAMAGED"};
        Map<String, Integer> seen = new TreeMap<>();
        for (Field field : face.getDeclaredFields()) {
            int modifiers = field.getModifiers();
            if (Modifier.isPrivate(modifiers)) {
                continue;
            }
            checks.yes(field.getName() + " is a public constant int", Modifier.isPublic(modifiers)
                && Modifier.isStatic(modifiers) && Modifier.isFinal(modifiers) && field.getType() == int.class);
            seen.put(field.getName(), field.getInt(null));
        }
        Map<String, Integer> want = new TreeMap<>();
        for (int i = 0; i < names.length; i++) {
            want.put(names[i], -1 - i);
        }
        checks.yes("constants " + seen, seen.equals(want));
    }

    private static void checkMethods(Checks checks, Class<?> face) {
        TreeSet<String> seen = new TreeSet<>();
        TreeSet<String> hidden = new TreeSet<>();
        for (Method method : face.getDeclaredMethods()) {
            if (Modifier.isPrivate(method.getModifiers())) {
                hidden.add(method.getName());
                continue;
            }
            checks.yes(method + " is public, not static, and answers an int",
                Modifier.isPublic(method.getModifiers()) && !Modifier.isStatic(method.getModifiers())
                && method.getReturnType() == int.class);
            for (Class<?> type : method.getParameterTypes()) {
                checks.yes(method + " takes ints", type == int.class);
            }
            seen.add(method.getName() + "/" + method.getParameterCount());
        }
        checks.yes("methods " + seen, seen.equals(new TreeSet<>(java.util.List.of(METHODS))));
        for (String call : METHODS) {
            String name = call.substring(0, call.indexOf('/'));
            checks.yes("no private method is called " + name, !hidden.contains(name));
        }
    }
}
