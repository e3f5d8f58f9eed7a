import java.lang.reflect.Constructor;
import java.lang.reflect.Field;
import java.lang.reflect.Method;
import java.lang.reflect.Modifier;
import java.util.Set;
import java.util.TreeSet;

/** The document's public face, and no member beside it that can be seen from outside. */
public final class FaceTest {
    private static final Checks CHECKS = new Checks();

    private static final Set<String> FACE = Set.of(
        "public ChainNode()",
        "public int ChainNode.input(int,int,int,int)",
        "public int ChainNode.output(int,int,int)",
        "public int ChainNode.seal(int)",
        "public boolean ChainNode.offer(int)",
        "public int ChainNode.block(int,int,int)",
        "public int ChainNode.include(int,int)",
        "public int ChainNode.reward(int,int,int)",
        "public int ChainNode.submit(int)",
        "public int ChainNode.mine(int,int,int)",
        "public int ChainNode.tip()",
        "public int ChainNode.count(int)",
        "public int ChainNode.at(int)",
        "public int ChainNode.unspent(int,int)",
        "public int ChainNode.pooled(int)",
        "public int ChainNode.depth(int)",
        "public static final int ChainNode.REFUSED",
        "public static final int ChainNode.FULL");

    public static void main(String[] args) {
        Set<String> seen = new TreeSet<>();
        for (Constructor<?> made : ChainNode.class.getDeclaredConstructors()) {
            seen.add(made.toString());
        }
        for (Method method : ChainNode.class.getDeclaredMethods()) {
            if (!Modifier.isPrivate(method.getModifiers())) {
                seen.add(method.toString());
            }
        }
        for (Field field : ChainNode.class.getDeclaredFields()) {
            if (!Modifier.isPrivate(field.getModifiers())) {
                seen.add(field.toString());
            }
        }
        for (String member : seen) {
            CHECKS.due("beside the face: " + member, FACE.contains(member), true);
        }
        for (String member : FACE) {
            CHECKS.due("of the face: " + member, seen.contains(member), true);
        }
        int modifiers = ChainNode.class.getModifiers();
        CHECKS.due("public and final", Modifier.isPublic(modifiers) && Modifier.isFinal(modifiers), true);
        CHECKS.due("no package", ChainNode.class.getPackageName().length(), 0);
        CHECKS.due("REFUSED", ChainNode.REFUSED, -1);
        CHECKS.due("FULL", ChainNode.FULL, -2);
        CHECKS.end();
    }
}
