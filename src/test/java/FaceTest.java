import java.lang.reflect.Constructor;
import java.lang.reflect.Field;
import java.lang.reflect.Method;
import java.lang.reflect.Modifier;
import java.util.TreeSet;

// The class shows the document's public face and nothing else.
public final class FaceTest {
    private static final String[] FACE = {
        "public RepeatFinder()",
        "public int RepeatFinder.ask(int)",
        "public int RepeatFinder.common()",
        "public int RepeatFinder.count()",
        "public int RepeatFinder.longest(int)",
        "public int RepeatFinder.place()",
        "public int RepeatFinder.rank()",
        "public int RepeatFinder.repeats()",
        "public int RepeatFinder.shift()",
        "public int RepeatFinder.type(int)",
        "public int RepeatFinder.unique(int)",
        "public int RepeatFinder.wipe()",
        "public int RepeatFinder.word(int)",
        "public int RepeatFinder.words()",
        "public static final int RepeatFinder.BAD",
        "public static final int RepeatFinder.FULL",
        "public static final int RepeatFinder.NONE",
    };

    private static TreeSet<String> shown() {
        TreeSet<String> found = new TreeSet<>();
        for (Constructor<?> c : RepeatFinder.class.getDeclaredConstructors()) {
            found.add(c.toString());
        }
        for (Method m : RepeatFinder.class.getDeclaredMethods()) {
            if (!Modifier.isPrivate(m.getModifiers())) {
                found.add(m.toString());
            }
        }
        for (Field f : RepeatFinder.class.getDeclaredFields()) {
            if (!Modifier.isPrivate(f.getModifiers())) {
                found.add(f.toString());
            }
        }
        return found;
    }

    public static void main(String[] args) {
        TreeSet<String> want = new TreeSet<>();
        for (String member : FACE) {
            want.add(member);
        }
        boolean fine = true;
        if (!shown().equals(want)) {
            fine = false;
            System.out.println("the face is " + shown() + ", due is " + want);
        }
        if (RepeatFinder.FULL != -1 || RepeatFinder.BAD != -2 || RepeatFinder.NONE != -3) {
            fine = false;
            System.out.println("FULL, BAD, NONE are not -1, -2, -3");
        }
        if (!Modifier.isFinal(RepeatFinder.class.getModifiers())
                || !Modifier.isPublic(RepeatFinder.class.getModifiers())) {
            fine = false;
            System.out.println("the class is not public and final");
        }
        System.out.println(fine ? "the face is the document's" : "the face is not the document's");
        if (!fine) {
            System.exit(1);
        }
    }
}
