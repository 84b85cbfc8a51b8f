import java.lang.reflect.Constructor;
import java.lang.reflect.Field;
import java.lang.reflect.Member;
import java.lang.reflect.Method;
import java.lang.reflect.Modifier;
import java.util.Arrays;
import java.util.TreeSet;

/** The class shows the document's face and no more (the face, and rule 1 of LANGUAGE.md). */
public final class FaceTest {
    private static final String[] FACE = {
        "public boolean LineDebugger.load(int,int)",
        "public int LineDebugger.fault(int) throws IllegalArgumentException,IllegalStateException",
        "public int LineDebugger.request(int,int,int) throws IllegalArgumentException,UnsupportedOperationException",
        "public int LineDebugger.byteAt(int)",
        "public int LineDebugger.rule(int,int,int,int) throws IllegalArgumentException,IllegalStateException",
        "public void LineDebugger.save(int,int) throws IllegalStateException,IllegalArgumentException",
        "public int LineDebugger.unwind() throws UnsupportedOperationException",
        "public int LineDebugger.frame(int,int) throws IndexOutOfBoundsException",
        "public int LineDebugger.operation(int,int) throws IllegalArgumentException,IllegalStateException",
        "public int LineDebugger.drop()",
        "public int LineDebugger.evaluate(int) throws IndexOutOfBoundsException,IllegalStateException,"
                + "ArithmeticException,IllegalArgumentException,UnsupportedOperationException",
        "public int LineDebugger.count(int)",
    };

    public static void main(String[] args) {
        Check check = new Check();
        int modifiers = LineDebugger.class.getModifiers();
        check.due("public and final", Modifier.isPublic(modifiers) && Modifier.isFinal(modifiers), true);

        TreeSet<String> shown = new TreeSet<>();
        TreeSet<String> publicNames = new TreeSet<>();
        for (Method method : LineDebugger.class.getDeclaredMethods()) {
            if (!Modifier.isPrivate(method.getModifiers())) {
                shown.add(method.toString().replace("java.lang.", ""));
                publicNames.add(method.getName());
            }
        }
        check.due("methods", shown, new TreeSet<>(Arrays.asList(FACE)));

        Constructor<?>[] constructors = LineDebugger.class.getDeclaredConstructors();
        check.due("constructors", Arrays.toString(constructors), "[public LineDebugger()]");
        for (Field field : LineDebugger.class.getDeclaredFields()) {
            checkPrivate(check, field);
        }
        checkInside(check, LineDebugger.class, publicNames);
        check.end();
    }

    private static void checkInside(Check check, Class<?> outer, TreeSet<String> publicNames) {
        for (Class<?> inside : outer.getDeclaredClasses()) {
            check.due(inside + " is static", Modifier.isStatic(inside.getModifiers()), true);
            for (Method method : inside.getDeclaredMethods()) {
                check.due(method + " has a public name", publicNames.contains(method.getName()), false);
            }
            checkInside(check, inside, publicNames);
        }
        for (Method method : outer.getDeclaredMethods()) {
            if (Modifier.isPrivate(method.getModifiers())) {
                check.due(method + " has a public name", publicNames.contains(method.getName()), false);
            }
        }
    }

    private static void checkPrivate(Check check, Member member) {
        check.due(member + " is private", Modifier.isPrivate(member.getModifiers()), true);
    }
}
