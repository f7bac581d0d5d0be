import java.io.IOException;
import java.nio.file.Files;
import java.nio.file.Path;
import java.util.HashMap;
import java.util.Map;
import java.util.Set;
import java.util.TreeSet;
import java.util.regex.Matcher;
import java.util.regex.Pattern;

/** What a look at the words of the program can tell of ../shared/LANGUAGE.md. */
public final class LanguageTest {
    private static final Path PROGRAM = Path.of("src/main/java/Swarmhall.java");
    private static final int LONGEST_METHOD = 60;
    private static final int DEEPEST_CALLS = 8;
    private static final int MOST_PARAMETERS = 7;
    private static final int MOST_CLASSES = 12;
    private static final Pattern METHOD_HEAD = Pattern.compile(
            "(?: {4}| {8})(?:[a-zA-Z\\[\\]]+ )+(\\w+)\\((.*)\\) (?:throws .*)?\\{");
    private static final String[] FORBIDDEN = {
        "->", "::", "\\btry\\b", "\\bcatch\\b", "\\bfinally\\b", "\\bsynchronized\\b", "\\bassert\\b",
        "\\binstanceof\\b", "\\bpackage\\b", "\\bdouble\\b", "\\bfloat\\b", "\\bObject\\b", "Exact\\b",
        "\\bSystem\\.(?!arraycopy)", "\\bRandom\\b", "\\bThread\\b", "\\bprotected\\b", "\\bvolatile\\b",
        "\\bstatic\\s*\\{", "\\bimport\\s+(?!java\\.util\\.(Arrays|ArrayList|List|Iterator|NoSuchElementException);)",
        "\\bArrays\\.(?!copyOf\\b|copyOfRange\\b|fill\\b|\\s)", "\\bequals\\b", "\\bhashCode\\b", "\\btoString\\b",
        "\\bstatic\\s+(?!final\\b)[\\w\\[\\]]+\\s+\\w+\\s*[=;]",
        "\\bthrow\\s+(?!new (?:IllegalState|IllegalArgument|IndexOutOfBounds)Exception\\(\"\"\\);)",
        "\"\"\\s*\\+", "\\+=?\\s*\"\"", "\\bString\\b",
    };

    public static void main(String[] args) throws IOException {
        String program = Files.readString(PROGRAM);
        Check.due("signs from 1 to 127", true, program.chars().allMatch(sign -> sign > 0 && sign < 128));
        String code = withoutCommentsAndTexts(program);
        for (String each : FORBIDDEN) {
            Matcher found = Pattern.compile(each).matcher(code.replaceAll("import java.util.Arrays;", ""));
            Check.due("the word " + each, "", found.find() ? found.group() : "");
        }
        Check.due("the longest method is short", true, longestBody(code) <= LONGEST_METHOD);
        checkCalls(code);
        int classes = code.split("\\b(class|interface|enum|record) \\w+", -1).length - 1;
        Check.due("not too many classes", true, classes <= MOST_CLASSES);
        Check.end();
    }

    /** Methods of one name are taken for one. */
    private static void checkCalls(String code) {
        Map<String, StringBuilder> bodies = new HashMap<>();
        StringBuilder body = new StringBuilder();
        for (String line : code.split("\n")) {
            Matcher head = METHOD_HEAD.matcher(line);
            if (head.matches()) {
                body = bodies.computeIfAbsent(head.group(1), name -> new StringBuilder());
                Check.due("few parameters: " + line, true, head.group(2).split(",").length <= MOST_PARAMETERS);
            } else {
                body.append(line).append('\n');
            }
        }
        Check.due("methods are found", true, bodies.containsKey("run") && bodies.containsKey("isIn"));
        for (String name : bodies.keySet()) {
            int deep = deepest(name, bodies, new TreeSet<>());
            Check.due("calls of " + name + " go " + deep + " deep", true, deep <= DEEPEST_CALLS);
        }
    }

    /** How many calls stand open at once, this one among them; one that calls itself counts as too deep. */
    private static int deepest(String name, Map<String, StringBuilder> bodies, Set<String> open) {
        if (!open.add(name)) {
            return DEEPEST_CALLS + 1;
        }
        int deep = 0;
        for (String each : bodies.keySet()) {
            if (Pattern.compile("(?<!new )\\b" + each + "\\(").matcher(bodies.get(name)).find()) {
                deep = Math.max(deep, deepest(each, bodies, open));
            }
        }
        open.remove(name);
        return deep + 1;
    }

    private static String withoutCommentsAndTexts(String program) {
        return program.replaceAll("(?s)/\\*.*?\\*/", "").replaceAll("//[^\n]*", "").replaceAll("\"[^\"\n]*\"", "\"\"");
    }

    /** A method begins with a line that ends in ") {" or "Exception {", and ends with a brace as far in as it. */
    private static int longestBody(String code) {
        String[] lines = code.split("\n");
        int longest = 0;
        for (int at = 0; at < lines.length; at++) {
            if (lines[at].matches("( {4}| {8})[a-zA-Z].*(\\)|Exception) \\{")) {
                String end = lines[at].replaceAll("\\S.*", "") + "}";
                int to = at;
                while (to < lines.length && !lines[to].equals(end)) {
                    to++;
                }
                longest = Math.max(longest, to - at);
            }
        }
        return longest;
    }
}
