import java.lang.reflect.Constructor;
import java.lang.reflect.Field;
import java.lang.reflect.Method;
import java.lang.reflect.Modifier;
import java.util.TreeSet;

/** Promise 1, a new object, and the class as it must stand. */
public final class FaceTest {
    private static final String[] METHODS = {
        "boolean back()",
        "boolean deal(long,int,int)",
        "boolean has(int,int)",
        "int contract(int)",
        "int phase()",
        "int places(int) throws IndexOutOfBoundsException",
        "int points(int,int) throws IndexOutOfBoundsException",
        "int record() throws IllegalStateException,UnsupportedOperationException",
        "int score() throws IllegalStateException",
        "int solve() throws IllegalStateException,UnsupportedOperationException",
        "int table(int)",
        "int tricks(int)",
        "int turn()",
        "long number()",
        "long shuffle(long,int,int)",
        "void call(int) throws IllegalStateException,IllegalArgumentException,UnsupportedOperationException",
        "void play(int) throws IllegalStateException,NoSuchElementException,UnsupportedOperationException",
    };

    public static void main(String[] args) {
        members();
        newObject();
        objectsAreApart();
        Checks.end("FaceTest");
    }

    private static void members() {
        Class<?> face = ShortBridge.class;
        Checks.due("modifiers of the class", face.getModifiers(), Modifier.PUBLIC | Modifier.FINAL);
        TreeSet<String> visible = new TreeSet<>();
        TreeSet<String> publicNames = new TreeSet<>();
        for (Method m : face.getDeclaredMethods()) {
            if (!Modifier.isPrivate(m.getModifiers())) {
                visible.add(signature(m));
                publicNames.add(m.getName());
                Checks.due("modifiers of " + m.getName(), m.getModifiers(), Modifier.PUBLIC);
            }
        }
        Checks.due("methods of the face", String.join("\n", visible), String.join("\n", METHODS));
        for (Method m : face.getDeclaredMethods()) {
            if (Modifier.isPrivate(m.getModifiers())) {
                Checks.due("private method with a public name: " + m.getName(), publicNames.contains(m.getName()), false);
            }
        }
        for (Field f : face.getDeclaredFields()) {
            boolean isFace = f.getName().equals("NONE");
            Checks.due("private field " + f.getName(), Modifier.isPrivate(f.getModifiers()), !isFace);
        }
        Constructor<?>[] made = face.getDeclaredConstructors();
        Checks.due("constructors", made.length, 1);
        Checks.due("parameters of the constructor", made[0].getParameterCount(), 0);
        Checks.due("modifiers of the constructor", made[0].getModifiers(), Modifier.PUBLIC);
        Checks.due("NONE", ShortBridge.NONE, -1);
    }

    private static String signature(Method m) {
        StringBuilder s = new StringBuilder();
        s.append(m.getReturnType().getSimpleName()).append(' ').append(m.getName()).append('(');
        s.append(names(m.getParameterTypes())).append(')');
        if (m.getExceptionTypes().length > 0) {
            s.append(" throws ").append(names(m.getExceptionTypes()));
        }
        return s.toString();
    }

    private static String names(Class<?>[] types) {
        StringBuilder s = new StringBuilder();
        for (Class<?> t : types) {
            s.append(s.length() == 0 ? "" : ",").append(t.getSimpleName());
        }
        return s.toString();
    }

    private static void newObject() {
        ShortBridge x = new ShortBridge();
        Checks.due("phase()", x.phase(), 0);
        Checks.due("turn()", x.turn(), -1);
        Checks.due("number()", x.number(), -1);
        for (int p = 0; p < 4; p++) {
            Checks.due("hand of " + p, Checks.hand(x, p), "");
        }
        for (int i = -1; i < 5; i++) {
            Checks.due("contract(" + i + ")", x.contract(i), -1);
            Checks.due("table(" + i + ")", x.table(i), -1);
        }
        Checks.due("tricks(0)", x.tricks(0), 0);
        Checks.due("tricks(1)", x.tricks(1), 0);
        Checks.due("tricks(2)", x.tricks(2), -1);
        Checks.due("back()", x.back(), false);
        Checks.refused("call(0)", x, IllegalStateException.class, () -> x.call(0));
        Checks.refused("call(99)", x, IllegalStateException.class, () -> x.call(99));
        Checks.refused("play(0)", x, IllegalStateException.class, () -> x.play(0));
        Checks.refused("play(99)", x, IllegalStateException.class, () -> x.play(99));
        Checks.refused("score()", x, IllegalStateException.class, x::score);
        Checks.refused("solve()", x, IllegalStateException.class, x::solve);
        Checks.refused("record()", x, IllegalStateException.class, x::record);
        Checks.refused("points(0, 0)", x, IndexOutOfBoundsException.class, () -> x.points(0, 0));
        Checks.refused("places(0)", x, IndexOutOfBoundsException.class, () -> x.places(0));
    }

    private static void objectsAreApart() {
        ShortBridge x = new ShortBridge();
        ShortBridge y = new ShortBridge();
        String fresh = Checks.snapshot(y);
        x.deal(77, 0, 0);
        Checks.calls(x, 0, 0, 0, 0);
        x.record();
        Checks.due("an object while another one is used", Checks.snapshot(y), fresh);
    }
}
