import java.lang.reflect.Constructor;
import java.lang.reflect.Field;
import java.lang.reflect.Method;
import java.lang.reflect.Modifier;
import java.util.Arrays;
import java.util.Set;
import java.util.TreeSet;

/** The public face is the document's, and nothing else is seen from outside. */
public final class FaceTest {
    private static int wrong = 0;

    public static void main(String[] args) {
        Set<String> due = new TreeSet<>(Arrays.asList(
            "public static final int LetterBroker.NONE",
            "public LetterBroker()",
            "public int LetterBroker.send(long,int)",
            "public int LetterBroker.step()",
            "public int LetterBroker.ready()",
            "public int LetterBroker.receive()",
            "public int LetterBroker.line()",
            "public boolean LetterBroker.connect()",
            "public int LetterBroker.channel(int,int)",
            "public int LetterBroker.queue(int,int)"));
        Set<String> seen = new TreeSet<>();
        Set<String> hidden = new TreeSet<>();
        for (Field field : LetterBroker.class.getDeclaredFields()) {
            note(seen, field.getModifiers(), field.toString());
        }
        for (Constructor<?> constructor : LetterBroker.class.getDeclaredConstructors()) {
            note(seen, constructor.getModifiers(), constructor.toString());
        }
        for (Method method : LetterBroker.class.getDeclaredMethods()) {
            note(seen, method.getModifiers(), method.toString());
            if (Modifier.isPrivate(method.getModifiers())) {
                hidden.add(method.getName());
            }
        }
        check("the face", seen.toString(), due.toString());
        for (Method method : LetterBroker.class.getMethods()) {
            check("a private " + method.getName(), "" + hidden.contains(method.getName()), "false");
        }
        for (Class<?> inside : LetterBroker.class.getDeclaredClasses()) {
            check(inside + " is static", "" + Modifier.isStatic(inside.getModifiers()), "true");
            check(inside + " is public", "" + Modifier.isPublic(inside.getModifiers()), "false");
        }
        check("final", "" + Modifier.isFinal(LetterBroker.class.getModifiers()), "true");
        check("NONE", "" + LetterBroker.NONE, "-1");
        System.out.println(wrong == 0 ? "all as due" : wrong + " not as due");
        System.exit(wrong == 0 ? 0 : 1);
    }

    private static void note(Set<String> seen, int modifiers, String text) {
        if (!Modifier.isPrivate(modifiers)) {
            seen.add(text);
        }
    }

    private static void check(String what, String got, String due) {
        if (!got.equals(due)) {
            wrong++;
            System.out.println(what + " is " + got + ", due is " + due);
        }
    }
}
