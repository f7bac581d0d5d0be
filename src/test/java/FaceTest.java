import java.io.IOException;
import java.lang.reflect.Constructor;
import java.lang.reflect.Field;
import java.lang.reflect.Method;
import java.lang.reflect.Modifier;
import java.nio.file.Files;
import java.nio.file.Path;
import java.util.Arrays;
import java.util.Set;
import java.util.TreeSet;

/** The face is the document's, and nothing else of the class can be seen from outside. */
public final class FaceTest {
    private static final String[] FACE = {
        "Swarmhall()",
        "blocks(int,int) int", "chosen(int) int", "doubles(int) int", "got(int,int) int", "holders(int) int",
        "holds(int) int", "holdsByLog(int) int", "isBanned(int,int) boolean", "join(boolean) int", "leave(int) int",
        "peers() int", "rounds() int", "run(int) int", "setCareful(int,boolean) boolean", "setPriority(int,int) int",
        "setSequence(int,boolean) boolean", "shown(int,int) int", "spoil(int,int,boolean) boolean",
        "strikes(int,int) int", "NONE int",
    };

    private static final Path DOCUMENT = Path.of("../shared/DOC.md");
    private static final Path PROGRAM = Path.of("src/main/java/Swarmhall.java");

    public static void main(String[] args) throws IOException {
        Set<String> seen = new TreeSet<>();
        Set<String> named = new TreeSet<>();
        for (Constructor<?> each : Swarmhall.class.getDeclaredConstructors()) {
            seen.add("Swarmhall" + types(each.getParameterTypes()));
        }
        for (Method each : Swarmhall.class.getDeclaredMethods()) {
            if (!Modifier.isPrivate(each.getModifiers())) {
                seen.add(each.getName() + types(each.getParameterTypes()) + " " + each.getReturnType());
                named.add(each.getName());
            }
        }
        for (Field each : Swarmhall.class.getDeclaredFields()) {
            if (!Modifier.isPrivate(each.getModifiers())) {
                seen.add(each.getName() + " " + each.getType());
            }
        }
        Check.due("the face", new TreeSet<>(Arrays.asList(FACE)), seen);
        for (Method each : Swarmhall.class.getDeclaredMethods()) {
            if (Modifier.isPrivate(each.getModifiers())) {
                Check.due("the name of a private method is a public one's: " + each, false,
                        named.contains(each.getName()));
            }
        }
        Check.due("public and final", Modifier.PUBLIC | Modifier.FINAL, Swarmhall.class.getModifiers());
        checkLines();
        Check.end();
    }

    /** Each line of the document's face stands in the program, with its parameters' names and its throws clause. */
    private static void checkLines() throws IOException {
        String program = Files.readString(PROGRAM);
        String document = Files.readString(DOCUMENT);
        String face = document.substring(document.indexOf("```java"));
        int count = 0;
        for (String line : face.substring(0, face.indexOf("\n}")).split("\n")) {
            String call = line.endsWith(");") || line.endsWith("Exception;")
                    ? line.substring(0, line.length() - 1) + " {" : line;
            if (line.contains("public")) {
                Check.due("the line " + line, true, program.contains("\n" + call + "\n"));
                count++;
            }
        }
        Check.due("lines of the face: the class, and all in it", FACE.length + 1, count);
    }

    private static String types(Class<?>[] types) {
        return Arrays.toString(types).replace('[', '(').replace(']', ')').replace(" ", "");
    }
}
