import java.lang.reflect.Constructor;
import java.lang.reflect.Field;
import java.lang.reflect.Method;
import java.lang.reflect.Modifier;
import java.util.Set;
import java.util.TreeSet;

/** The public face: what the document has, and nothing else that could be seen from outside. */
public final class FaceTest {
    private static final Check CHECK = new Check();
    private static final String[] FACE = {
        "public static final int ArcTape.NONE", "public ArcTape(int)",
        "public boolean ArcTape.add(int,int)", "public boolean ArcTape.drop(int,int)", "public int ArcTape.pack(int,int,int,int)",
        "public int ArcTape.offset(int)", "public int ArcTape.bit(int)", "public boolean ArcTape.flip(int)",
        "public int ArcTape.degree(int)", "public int ArcTape.successor(int,int)", "public int ArcTape.reference(int)",
        "public int ArcTape.components()", "public int ArcTape.component(int)", "public boolean ArcTape.prefer(int,int)",
        "public boolean ArcTape.start(int,int)", "public int ArcTape.step(int)", "public long ArcTape.score(int)",
        "public long ArcTape.hub(int)", "public int ArcTape.top(int)", "public long ArcTape.change()",
    };

    public static void main(String[] args) {
        Set<String> seen = new TreeSet<>();
        for (Field field : ArcTape.class.getDeclaredFields()) {
            note(seen, field.getModifiers(), field.toString());
        }
        for (Constructor<?> constructor : ArcTape.class.getDeclaredConstructors()) {
            note(seen, constructor.getModifiers(), constructor.toString());
        }
        for (Method method : ArcTape.class.getDeclaredMethods()) {
            note(seen, method.getModifiers(), method.toString());
        }
        CHECK.due("face", seen.toString(), new TreeSet<>(Set.of(FACE)).toString());
        CHECK.due("modifiers", Modifier.toString(ArcTape.class.getModifiers()), "public final");
        for (Class<?> inner : ArcTape.class.getDeclaredClasses()) {
            int modifiers = inner.getModifiers();
            CHECK.due(inner + " is static", Modifier.isStatic(modifiers), true);
            CHECK.due(inner + " is public or protected", Modifier.isPublic(modifiers) || Modifier.isProtected(modifiers), false);
            checkNames(inner);
        }
        checkNames(ArcTape.class);
        CHECK.finish();
    }

    /** LANGUAGE.md, rule 1: no private method bears the name of a public one. */
    private static void checkNames(Class<?> type) {
        for (Method method : type.getDeclaredMethods()) {
            boolean open = Modifier.isPublic(method.getModifiers());
            CHECK.due(method + " bears a public name", !open && isPublicName(method.getName()), false);
        }
    }

    private static boolean isPublicName(String name) {
        for (Method method : ArcTape.class.getMethods()) {
            if (method.getName().equals(name)) {
                return true;
            }
        }
        return false;
    }

    private static void note(Set<String> seen, int modifiers, String text) {
        if (!Modifier.isPrivate(modifiers)) {
            seen.add(text);
        }
    }
}
