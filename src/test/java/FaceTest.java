import java.lang.reflect.Constructor;
import java.lang.reflect.Field;
import java.lang.reflect.Method;
import java.lang.reflect.Modifier;
import java.util.ArrayList;
import java.util.Collections;
import java.util.List;

/** The class shows the document's face, and no member more. */
public final class FaceTest {
    private static final String[] CONSTANTS = {
        "NONE=-1", "LIFT=0", "CARRY=1", "FETCH=2",
        "EMPTY=0", "LOST=1", "SILENT=2", "NOT_YET=3", "ACKNOWLEDGED=4", "UNHEARD=5", "SEEN=6", "TAKEN=7",
        "SHIP=0", "APRON=1", "TRUCK=2", "STACK=3", "GONE=4",
    };
    private static final String[] METHODS = {
        "int berth(int, int) IndexOutOfBoundsException IllegalArgumentException IllegalStateException",
        "int box(int, int) IndexOutOfBoundsException IllegalArgumentException IllegalStateException",
        "int leave(int) IndexOutOfBoundsException IllegalStateException",
        "int send(int, int, int, int) IllegalArgumentException IndexOutOfBoundsException IllegalStateException",
        "int deliver(int) IndexOutOfBoundsException",
        "int act(int) IndexOutOfBoundsException",
        "int lose(int, int, boolean) IndexOutOfBoundsException IllegalArgumentException",
        "int repeat(int) IndexOutOfBoundsException IllegalStateException",
        "boolean silence(int, boolean) IndexOutOfBoundsException",
        "int giveAway(int, int) IndexOutOfBoundsException IllegalStateException",
        "int park(int, int) IndexOutOfBoundsException IllegalStateException",
        "int book(int, int, int) IndexOutOfBoundsException IllegalArgumentException IllegalStateException",
        "int unbook(int) IndexOutOfBoundsException IllegalStateException",
        "int advance(int) IllegalArgumentException IllegalStateException",
        "int hour()",
        "int boxes()",
        "int whereIs(int) IndexOutOfBoundsException",
        "int whereByLog(int) IndexOutOfBoundsException",
        "int liftedBy(int) IndexOutOfBoundsException",
        "int bookedFor(int) IndexOutOfBoundsException",
        "int placeOf(int) IndexOutOfBoundsException",
        "int height(int) IndexOutOfBoundsException",
        "int queue(int) IndexOutOfBoundsException",
        "int queued(int, int) IndexOutOfBoundsException",
        "int seen(int) IndexOutOfBoundsException",
        "int handed(int) IndexOutOfBoundsException",
        "boolean isDone(int) IndexOutOfBoundsException",
        "int moves()",
        "int moveAt(int) IndexOutOfBoundsException",
        "int unheard()",
    };

    private FaceTest() {
    }

    public static void main(String[] args) throws IllegalAccessException {
        Class<?> program = QuayMesh.class;
        Check.same("the class's modifiers", program.getModifiers(), Modifier.PUBLIC | Modifier.FINAL);
        sameOnes("constants", constants(program), List.of(CONSTANTS));
        sameOnes("methods", methods(program), List.of(METHODS));
        constructors(program);
        privateNames(program);
        for (Class<?> inside : program.getDeclaredClasses()) {
            boolean isShown = Modifier.isPublic(inside.getModifiers()) || Modifier.isProtected(inside.getModifiers());
            Check.that(inside + " is shown", !isShown);
            Check.that(inside + " is not static", Modifier.isStatic(inside.getModifiers()));
        }
        Check.end();
    }

    private static List<String> constants(Class<?> program) throws IllegalAccessException {
        List<String> found = new ArrayList<>();
        for (Field field : program.getDeclaredFields()) {
            if (!Modifier.isPrivate(field.getModifiers())) {
                Check.same("modifiers of " + field, field.getModifiers(), Modifier.PUBLIC | Modifier.STATIC | Modifier.FINAL);
                Check.that(field + " is no int", field.getType() == int.class);
                found.add(field.getName() + "=" + field.getInt(null));
            }
        }
        return found;
    }

    private static List<String> methods(Class<?> program) {
        List<String> found = new ArrayList<>();
        for (Method method : program.getDeclaredMethods()) {
            if (!Modifier.isPrivate(method.getModifiers()) && !method.isSynthetic()) {
                Check.same("modifiers of " + method, method.getModifiers(), Modifier.PUBLIC);
                found.add(describe(method));
            }
        }
        return found;
    }

    private static String describe(Method method) {
        StringBuilder text = new StringBuilder();
        text.append(method.getReturnType().getSimpleName()).append(' ').append(method.getName()).append('(');
        for (int i = 0; i < method.getParameterCount(); i++) {
            text.append(i == 0 ? "" : ", ").append(method.getParameterTypes()[i].getSimpleName());
        }
        text.append(')');
        for (Class<?> thrown : method.getExceptionTypes()) {
            text.append(' ').append(thrown.getSimpleName());
        }
        return text.toString();
    }

    private static void constructors(Class<?> program) {
        Constructor<?>[] all = program.getDeclaredConstructors();
        Check.same("the number of constructors", all.length, 1);
        Check.same("the constructor's modifiers", all[0].getModifiers(), Modifier.PUBLIC);
        Check.same("the constructor's parameters", all[0].getParameterCount(), 0);
    }

    private static void privateNames(Class<?> program) {
        List<String> shown = new ArrayList<>();
        for (Method method : program.getMethods()) {
            shown.add(method.getName());
        }
        for (Method method : program.getDeclaredMethods()) {
            boolean isHidden = Modifier.isPrivate(method.getModifiers());
            Check.that(method + " bears a public one's name", !isHidden || !shown.contains(method.getName()));
        }
    }

    private static void sameOnes(String what, List<String> found, List<String> due) {
        List<String> sortedFound = new ArrayList<>(found);
        List<String> sortedDue = new ArrayList<>(due);
        Collections.sort(sortedFound);
        Collections.sort(sortedDue);
        Check.that(what + " are " + sortedFound + ", due are " + sortedDue, sortedFound.equals(sortedDue));
    }
}
