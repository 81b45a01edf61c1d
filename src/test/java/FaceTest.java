import java.lang.reflect.Constructor;
import java.lang.reflect.Field;
import java.lang.reflect.Method;
import java.lang.reflect.Modifier;
import java.util.Set;
import java.util.TreeSet;

/** The class shows the document's face and nothing beside it. */
public final class FaceTest {
    private static final Set<String> FACE = Set.of(
            "public BestTree()",
            "public int BestTree.add(int,boolean)",
            "public int BestTree.drop(int)",
            "public int BestTree.mistakes(int)",
            "public int BestTree.price(int,int)",
            "public int BestTree.question(int,int)",
            "public int BestTree.leaves(int)",
            "public int BestTree.mistakesBy(int,int)",
            "public int BestTree.doubtful()");

    public static void main(String[] args) {
        int wrong = 0;
        Set<String> shown = shown();
        if (!shown.equals(FACE)) {
            wrong++;
            System.out.println("the face is " + shown + ", due is " + new TreeSet<>(FACE));
        }
        int modifiers = BestTree.class.getModifiers();
        if (!Modifier.isPublic(modifiers) || !Modifier.isFinal(modifiers)) {
            wrong++;
            System.out.println("the class is not public and final");
        }
        if (BestTree.class.getDeclaredClasses().length != 0) {
            wrong++;
            System.out.println("the class has a class inside");
        }
        System.out.println(wrong == 0 ? "the face is as due" : "the face is not as due");
        if (wrong != 0) {
            System.exit(1);
        }
    }

    private static Set<String> shown() {
        Set<String> shown = new TreeSet<>();
        for (Constructor<?> constructor : BestTree.class.getDeclaredConstructors()) {
            addIfShown(shown, constructor.getModifiers(), constructor.toString());
        }
        for (Method method : BestTree.class.getDeclaredMethods()) {
            addIfShown(shown, method.getModifiers(), method.toString());
        }
        for (Field field : BestTree.class.getDeclaredFields()) {
            addIfShown(shown, field.getModifiers(), field.toString());
        }
        return shown;
    }

    private static void addIfShown(Set<String> shown, int modifiers, String text) {
        if (!Modifier.isPrivate(modifiers)) {
            shown.add(text);
        }
    }
}
