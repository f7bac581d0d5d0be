import java.io.File;
import java.io.IOException;
import java.lang.reflect.Method;
import java.lang.reflect.Modifier;
import java.nio.file.Files;
import java.nio.file.Path;

/** README.md tells what stands: its example answers as it says, and it names every call and every test. */
public final class ReadmeTest {
    private static final Path README = Path.of("README.md");
    private static final File TESTS = new File("src/test/java");

    private final String[] lines;

    private ReadmeTest(String text) {
        lines = text.split("\n");
    }

    public static void main(String[] args) throws IOException {
        ReadmeTest readme = new ReadmeTest(Files.readString(README));
        readme.checkExample();
        readme.checkCalls();
        readme.checkTests();
        Check.end();
    }

    private void checkExample() {
        Swarmhall hall = new Swarmhall();
        int seeder = hall.join(true);
        dueLine("int seeder = hall.join(true);", seeder);
        int peer = hall.join(false);
        dueLine("int peer = hall.join(false);", peer);
        dueLine("hall.setPriority(7, 3);", hall.setPriority(7, 3));
        dueLine("hall.run(4);", hall.run(4));
        dueLine("hall.holds(peer);", hall.holds(peer));
        dueLine("hall.chosen(seeder);", hall.chosen(seeder));
    }

    /** The line has the call, and behind it the answer as a comment. */
    private void dueLine(String call, int answer) {
        boolean found = false;
        for (String line : lines) {
            found |= line.startsWith(call) && line.matches(".*; +// " + answer + ":.*");
        }
        Check.due("the line " + call + " answers " + answer, true, found);
    }

    private void checkCalls() {
        for (Method each : Swarmhall.class.getDeclaredMethods()) {
            if (Modifier.isPublic(each.getModifiers())) {
                dueStart("| `" + each.getName() + "(");
            }
        }
    }

    private void checkTests() {
        String[] files = TESTS.list();
        Check.due("there are tests", true, files != null && files.length > 0);
        for (String file : files == null ? new String[0] : files) {
            if (file.endsWith("Test.java")) {
                dueStart("- `" + file.substring(0, file.length() - ".java".length()) + "`: ");
            }
        }
    }

    private void dueStart(String start) {
        int count = 0;
        for (String line : lines) {
            count += line.startsWith(start) ? 1 : 0;
        }
        Check.due("lines that begin with " + start, 1, count);
    }
}
