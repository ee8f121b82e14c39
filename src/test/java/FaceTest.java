import java.lang.reflect.Constructor;
import java.lang.reflect.Field;
import java.lang.reflect.Method;
import java.lang.reflect.Modifier;
import java.util.TreeSet;

/** The public face: the class as it must stand. */
public final class FaceTest {
    private static final String[] METHODS = {
        "boolean back()",
        "boolean deal(long,int,int)",
        "boolean has(int,int)",
        "int contract(int)",
        "int phase()",
        "int places(int) throws IndexOutOfBoundsException",
        "int points(int,int) throws IndexOutOfBoundsException",
        "int record() throws IllegalStateException,UnsupportedOperationException",
        "int score() throws IllegalStateException",
        "int solve() throws IllegalStateException,UnsupportedOperationException",
        "int table(int)",
        "int tricks(int)",
        "int turn()",
        "long number()",
        "long shuffle(long,int,int)",
        "void call(int) throws IllegalStateException,IllegalArgumentException,UnsupportedOperationException",
        "void play(int) throws IllegalStateException,NoSuchElementException,UnsupportedOperationException",
    };

    public static void main(String[] args) {
        Checks.sentence("The public face", FaceTest::members);
        Checks.sentence("An object is used for at most 512 calls after it has been made", FaceTest::callsUpTo512);
        Checks.sentence("(one object knows nothing of another)", FaceTest::objectsAreApart);
        Checks.end("FaceTest");
    }

    private static void members() {
        Class<?> face = ShortBridge.class;
        Checks.due("modifiers of the class", face.getModifiers(), Modifier.PUBLIC | Modifier.FINAL);
        TreeSet<String> visible = new TreeSet<>();
        TreeSet<String> publicNames = new TreeSet<>();
        for (Method m : face.getDeclaredMethods()) {
            if (!Modifier.isPrivate(m.getModifiers())) {
                visible.add(signature(m));
                publicNames.add(m.getName());
                Checks.due("modifiers of " + m.getName(), m.getModifiers(), Modifier.PUBLIC);
            }
        }
        Checks.due("methods of the face", String.join("\n", visible), String.join("\n", METHODS));
        for (Method m : face.getDeclaredMethods()) {
            if (Modifier.isPrivate(m.getModifiers())) {
                Checks.due("private method with a public name: " + m.getName(), publicNames.contains(m.getName()), false);
            }
        }
        for (Field f : face.getDeclaredFields()) {
            boolean isFace = f.getName().equals("NONE");
            Checks.due("private field " + f.getName(), Modifier.isPrivate(f.getModifiers()), !isFace);
        }
        Constructor<?>[] made = face.getDeclaredConstructors();
        Checks.due("constructors", made.length, 1);
        Checks.due("parameters of the constructor", made[0].getParameterCount(), 0);
        Checks.due("modifiers of the constructor", made[0].getModifiers(), Modifier.PUBLIC);
        Checks.due("NONE", ShortBridge.NONE, -1);
    }

    private static String signature(Method m) {
        StringBuilder s = new StringBuilder();
        s.append(m.getReturnType().getSimpleName()).append(' ').append(m.getName()).append('(');
        s.append(names(m.getParameterTypes())).append(')');
        if (m.getExceptionTypes().length > 0) {
            s.append(" throws ").append(names(m.getExceptionTypes()));
        }
        return s.toString();
    }

    private static String names(Class<?>[] types) {
        StringBuilder s = new StringBuilder();
        for (Class<?> t : types) {
            s.append(s.length() == 0 ? "" : ",").append(t.getSimpleName());
        }
        return s.toString();
    }

    /** The longest auction, but for its last pass, forward and back in turn; the 512th call must still be right. */
    private static void callsUpTo512() {
        ShortBridge x = new ShortBridge();
        x.deal(77, 0, 0);
        int made = 1;
        boolean isForward = true;
        int standing = 0;
        while (made < 511) {
            if (isForward) {
                x.call(callOfLongestAuction(standing));
                standing++;
            } else {
                Checks.due("back() as call " + made, x.back(), true);
                standing--;
            }
            made++;
            isForward = standing == 0 || isForward && standing < 138;
        }
        Checks.due("the 512th call", x.turn(), standing % 4);
    }

    /** Three passes, then each bid, its double and its redouble with two passes behind. */
    private static int callOfLongestAuction(int at) {
        int place = at - 3;
        if (place < 0 || place % 3 != 0) {
            return 0;
        }
        int kind = place / 3 % 3;
        return kind == 0 ? 3 + place / 9 : kind;
    }

    private static void objectsAreApart() {
        ShortBridge x = new ShortBridge();
        ShortBridge y = new ShortBridge();
        String fresh = Checks.snapshot(y);
        x.deal(77, 0, 0);
        Checks.calls(x, 0, 0, 0, 0);
        x.record();
        Checks.due("an object while another one is used", Checks.snapshot(y), fresh);
    }
}
