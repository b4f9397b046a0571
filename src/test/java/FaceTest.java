import java.lang.reflect.Constructor;
import java.lang.reflect.Field;
import java.lang.reflect.Method;
import java.lang.reflect.Modifier;
import java.util.Set;
import java.util.TreeSet;

/** The public face of the document, and no other member that is not private; the constants. */
public final class FaceTest {
    private static final Set<String> FACE = Set.of(
        "int set(int, int)", "int landing(int, boolean)", "int come(int, boolean)", "int read()", "int turn(int)", "int pass(int)",
        "int person(int, int)", "int step(int, int)", "int does(int)", "int count(int)", "int untilArrived(int)", "int untilEmpty()",
        "int ifPassed(int, int)", "int bestLanding()", "int put(long)", "int wipe()", "int fault()", "int undo()", "int save(int)",
        "int restore(int)", "int NO_SUCH", "int BAD_VALUE", "int BAD_TEXT", "int TOO_MANY", "int NOT_POSSIBLE", "int NONE", "int HOLDS",
        "int BOWS", "int PATIENCE", "StairBows()");

    public static void main(String[] args) {
        Due.of("The public face", "public final class StairBows");
        Set<String> found = new TreeSet<>();
        Set<String> publicNames = new TreeSet<>();
        for (Method method : StairBows.class.getDeclaredMethods()) {
            if (!Modifier.isPrivate(method.getModifiers()) && !method.isSynthetic()) {
                found.add(method.getReturnType() + " " + method.getName() + types(method.getParameterTypes()));
                Due.isTrue(method + " is public", Modifier.isPublic(method.getModifiers()));
                Due.isTrue(method + " is not static", !Modifier.isStatic(method.getModifiers()));
                publicNames.add(method.getName());
            }
        }
        for (Field field : StairBows.class.getDeclaredFields()) {
            if (!Modifier.isPrivate(field.getModifiers()) && !field.isSynthetic()) {
                found.add(field.getType() + " " + field.getName());
                Due.is(field + " is public, static and final", field.getModifiers(), Modifier.PUBLIC | Modifier.STATIC | Modifier.FINAL);
            }
        }
        for (Constructor<?> constructor : StairBows.class.getDeclaredConstructors()) {
            found.add("StairBows" + types(constructor.getParameterTypes()));
            Due.isTrue("the constructor is public", Modifier.isPublic(constructor.getModifiers()));
        }
        for (String member : found) {
            Due.isTrue(member + " is of the document", FACE.contains(member));
        }
        for (String member : FACE) {
            Due.isTrue(member + " is there", found.contains(member));
        }
        for (Method method : StairBows.class.getDeclaredMethods()) {
            if (Modifier.isPrivate(method.getModifiers())) {
                Due.isTrue(method + " bears no public name", !publicNames.contains(method.getName()));
            }
        }
        Due.is("the class is public and final", StairBows.class.getModifiers(), Modifier.PUBLIC | Modifier.FINAL);
        constants();
        Due.end();
    }

    private static String types(Class<?>[] types) {
        StringBuilder text = new StringBuilder("(");
        for (Class<?> type : types) {
            text.append(text.length() > 1 ? ", " : "").append(type);
        }
        return text.append(")").toString();
    }

    private static void constants() {
        Due.of("Terms, the constants", "Error codes, and NONE: there is none. [..] Settings.");
        Due.is("NO_SUCH", StairBows.NO_SUCH, -1);
        Due.is("BAD_VALUE", StairBows.BAD_VALUE, -2);
        Due.is("BAD_TEXT", StairBows.BAD_TEXT, -3);
        Due.is("TOO_MANY", StairBows.TOO_MANY, -4);
        Due.is("NOT_POSSIBLE", StairBows.NOT_POSSIBLE, -5);
        Due.is("NONE", StairBows.NONE, -6);
        Due.is("HOLDS", StairBows.HOLDS, 0);
        Due.is("BOWS", StairBows.BOWS, 1);
        Due.is("PATIENCE", StairBows.PATIENCE, 2);
    }
}
