import java.lang.reflect.Constructor;
import java.lang.reflect.Field;
import java.lang.reflect.Method;
import java.lang.reflect.Modifier;
import java.util.Set;
import java.util.TreeSet;

/** The public face: what the document lists, and no other member that can be seen from outside. */
public final class FaceTest {
    private FaceTest() {
    }

    public static void main(String[] args) {
        Set<String> want = new TreeSet<>(Set.of(
            "public static final int ChainCover.BAD",
            "public static final int ChainCover.FULL",
            "public ChainCover()",
            "public int ChainCover.add(int)",
            "public int ChainCover.removeLast()",
            "public int ChainCover.turn()",
            "public int ChainCover.size()",
            "public boolean ChainCover.below(int,int)",
            "public int ChainCover.width(int)",
            "public int ChainCover.chains(int)",
            "public int ChainCover.longestChain(int)",
            "public int ChainCover.lowest()",
            "public int ChainCover.highest()",
            "public boolean ChainCover.isLargest(int)",
            "public boolean ChainCover.inSomeLargest(int)"));
        Check.dueText("the face", seenFromOutside().toString(), want.toString());
        Check.dueText("the class", Modifier.toString(ChainCover.class.getModifiers()), "public final");
        Check.due("BAD", ChainCover.BAD, -1);
        Check.due("FULL", ChainCover.FULL, -2);
        Check.end();
    }

    private static Set<String> seenFromOutside() {
        Set<String> seen = new TreeSet<>();
        for (Field field : ChainCover.class.getDeclaredFields()) {
            if (!Modifier.isPrivate(field.getModifiers())) {
                seen.add(field.toString());
            }
        }
        for (Constructor<?> constructor : ChainCover.class.getDeclaredConstructors()) {
            if (!Modifier.isPrivate(constructor.getModifiers())) {
                seen.add(constructor.toString());
            }
        }
        for (Method method : ChainCover.class.getDeclaredMethods()) {
            if (!Modifier.isPrivate(method.getModifiers())) {
                seen.add(method.toString());
            }
        }
        return seen;
    }
}
