import java.lang.reflect.Constructor;
import java.lang.reflect.Field;
import java.lang.reflect.Method;
import java.lang.reflect.Modifier;
import java.util.Set;
import java.util.TreeSet;

/** The public face of the document, and the rules of LANGUAGE.md that the class file shows. */
final class FaceTest {
    private static final Checks checks = new Checks();

    public static void main(String[] args) {
        checkConstants();
        checkMembers();
        checkFields();
        checks.end();
    }

    private static void checkConstants() {
        checks.same("BAD_POSITION", ParityGame.BAD_POSITION, -1);
        checks.same("BAD_COLOUR", ParityGame.BAD_COLOUR, -2);
        checks.same("BAD_PLAYER", ParityGame.BAD_PLAYER, -3);
    }

    private static void checkMembers() {
        Set<String> due = Set.of(
            "public static final int ParityGame.BAD_POSITION",
            "public static final int ParityGame.BAD_COLOUR",
            "public static final int ParityGame.BAD_PLAYER",
            "public ParityGame()",
            "public int ParityGame.set(int,int,int,int)",
            "public int ParityGame.paint(int,int)",
            "public int ParityGame.hand(int)",
            "public void ParityGame.mirror()",
            "public int ParityGame.winner(int)",
            "public int ParityGame.region()",
            "public boolean ParityGame.good(int,int)",
            "public int ParityGame.plans(int)",
            "public int ParityGame.firstPlan(int)",
            "public boolean ParityGame.canForce(int,int)",
            "public int ParityGame.contested()");
        Set<String> seen = visibleMembers();
        for (String member : due) {
            checks.same("has " + member, seen.contains(member), true);
        }
        for (String member : seen) {
            checks.same("may have " + member, due.contains(member), true);
        }
        int modifiers = ParityGame.class.getModifiers();
        checks.same("public", Modifier.isPublic(modifiers), true);
        checks.same("final", Modifier.isFinal(modifiers), true);
        checks.same("nested classes", ParityGame.class.getDeclaredClasses().length, 0);
    }

    private static Set<String> visibleMembers() {
        Set<String> seen = new TreeSet<>();
        Set<String> publicNames = new TreeSet<>();
        for (Method method : ParityGame.class.getDeclaredMethods()) {
            if (!Modifier.isPrivate(method.getModifiers())) {
                seen.add(method.toString());
                publicNames.add(method.getName());
            }
        }
        for (Method method : ParityGame.class.getDeclaredMethods()) {
            if (Modifier.isPrivate(method.getModifiers())) {
                checks.same("private " + method.getName() + " bears a public name",
                    publicNames.contains(method.getName()), false);
            }
        }
        for (Constructor<?> constructor : ParityGame.class.getDeclaredConstructors()) {
            seen.add(constructor.toString());
        }
        for (Field field : ParityGame.class.getDeclaredFields()) {
            if (!Modifier.isPrivate(field.getModifiers())) {
                seen.add(field.toString());
            }
        }
        return seen;
    }

    private static void checkFields() {
        for (Field field : ParityGame.class.getDeclaredFields()) {
            Class<?> type = field.getType();
            boolean isStatic = Modifier.isStatic(field.getModifiers());
            Class<?> element = type.isArray() && !isStatic ? type.getComponentType() : type;
            boolean isNumber = element.isPrimitive() && element != float.class && element != double.class;
            checks.same(field + " is of an allowed type", isNumber, true);
            if (isStatic) {
                checks.same(field + " is a constant", Modifier.isFinal(field.getModifiers()), true);
                checks.same(field + " is of int or long", type == int.class || type == long.class, true);
            }
        }
    }
}
