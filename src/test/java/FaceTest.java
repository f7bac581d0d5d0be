import java.lang.reflect.Constructor;
import java.lang.reflect.Field;
import java.lang.reflect.Method;
import java.lang.reflect.Modifier;
import java.util.Arrays;
import java.util.Set;
import java.util.TreeSet;

/** The face is the document's, and nothing else of the class can be seen from outside. */
public final class FaceTest {
    private static final String[] FACE = {
        "Swarmhall()",
        "blocks(int,int) int", "chosen(int) int", "doubles(int) int", "got(int,int) int", "holders(int) int",
        "holds(int) int", "holdsByLog(int) int", "isBanned(int,int) boolean", "join(boolean) int", "leave(int) int",
        "peers() int", "rounds() int", "run(int) int", "setCareful(int,boolean) boolean", "setPriority(int,int) int",
        "setSequence(int,boolean) boolean", "shown(int,int) int", "spoil(int,int,boolean) boolean",
        "strikes(int,int) int", "NONE int",
    };

    public static void main(String[] args) {
        Set<String> seen = new TreeSet<>();
        Set<String> named = new TreeSet<>();
        for (Constructor<?> each : Swarmhall.class.getDeclaredConstructors()) {
            seen.add("Swarmhall" + types(each.getParameterTypes()));
        }
        for (Method each : Swarmhall.class.getDeclaredMethods()) {
            if (!Modifier.isPrivate(each.getModifiers())) {
                seen.add(each.getName() + types(each.getParameterTypes()) + " " + each.getReturnType());
                named.add(each.getName());
            }
        }
        for (Field each : Swarmhall.class.getDeclaredFields()) {
            if (!Modifier.isPrivate(each.getModifiers())) {
                seen.add(each.getName() + " " + each.getType());
            }
        }
        Check.due("the face", new TreeSet<>(Arrays.asList(FACE)), seen);
        for (Method each : Swarmhall.class.getDeclaredMethods()) {
            if (Modifier.isPrivate(each.getModifiers())) {
                Check.due("the name of a private method is a public one's: " + each, false,
                        named.contains(each.getName()));
            }
        }
        Check.due("public and final", Modifier.PUBLIC | Modifier.FINAL, Swarmhall.class.getModifiers());
        Check.end();
    }

    private static String types(Class<?>[] types) {
        return Arrays.toString(types).replace('[', '(').replace(']', ')').replace(" ", "");
    }
}
