import java.lang.reflect.Constructor;
import java.lang.reflect.Field;
import java.lang.reflect.Method;
import java.lang.reflect.Modifier;
import java.util.Set;
import java.util.TreeSet;

/** The class shows just the constants, constructor and methods of the document, and hides the rest. */
public final class PublicFaceTest {
    private static final Set<String> FACE = Set.of(
        "public static final int BAD",
        "public static final int FULL",
        "public static final int REFUSED",
        "public static final int NONE",
        "public EqualJobPlanner(int,int)",
        "public int offer(int,int)",
        "public int probe(int,int)",
        "public int move(int,int,int)",
        "public boolean withdraw(int)",
        "public int block(int,int)",
        "public boolean unblock(int)",
        "public int jobs()",
        "public int release(int)",
        "public int deadline(int)",
        "public int earliestEnd()",
        "public int latestBegin()",
        "public int earliestStart(int)",
        "public int latestStart(int)",
        "public boolean open(int)",
        "public int plannedStart(int)");

    public static void main(String[] args) {
        Set<String> shown = shownMembers();
        Set<String> missing = new TreeSet<>(FACE);
        missing.removeAll(shown);
        Set<String> extra = new TreeSet<>(shown);
        extra.removeAll(FACE);
        missing.forEach(member -> System.out.println("missing: " + member));
        extra.forEach(member -> System.out.println("not in the document: " + member));
        int modifiers = EqualJobPlanner.class.getModifiers();
        boolean publicAndFinal = Modifier.isPublic(modifiers) && Modifier.isFinal(modifiers);
        if (!publicAndFinal) {
            System.out.println("the class is not public and final");
        }
        if (!missing.isEmpty() || !extra.isEmpty() || !publicAndFinal) {
            System.exit(1);
        }
        System.out.println("the public face is as due");
    }

    private static Set<String> shownMembers() {
        Set<String> shown = new TreeSet<>();
        for (Field field : EqualJobPlanner.class.getDeclaredFields()) {
            if (!Modifier.isPrivate(field.getModifiers())) {
                shown.add(withoutOwner(field.toGenericString()));
            }
        }
        for (Constructor<?> constructor : EqualJobPlanner.class.getDeclaredConstructors()) {
            if (!Modifier.isPrivate(constructor.getModifiers())) {
                shown.add(constructor.toGenericString());
            }
        }
        for (Method method : EqualJobPlanner.class.getDeclaredMethods()) {
            if (!Modifier.isPrivate(method.getModifiers())) {
                shown.add(withoutOwner(method.toGenericString()));
            }
        }
        return shown;
    }

    private static String withoutOwner(String member) {
        return member.replace("EqualJobPlanner.", "");
    }
}
