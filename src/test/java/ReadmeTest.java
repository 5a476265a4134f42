import java.io.IOException;
import java.nio.file.Files;
import java.nio.file.Path;
import java.util.Set;
import java.util.TreeSet;
import java.util.regex.Matcher;
import java.util.regex.Pattern;

// Makes the calls of README.md's example and compares each answer with the
// number behind it. It is run from the project's directory.
public final class ReadmeTest {
    private static final Pattern CALL = Pattern.compile("x\\.(\\w+)\\((-?\\d*)\\);\\s*// (-?\\d+)\\b.*");
    private static final Set<String> METHODS = Set.of("type", "shift", "ask", "wipe", "count", "place",
            "words", "longest", "repeats", "word", "rank", "common", "unique");

    private static int call(RepeatFinder x, String name, String argument) throws ReflectiveOperationException {
        if (argument.isEmpty()) {
            return (int) RepeatFinder.class.getMethod(name).invoke(x);
        }
        return (int) RepeatFinder.class.getMethod(name, int.class).invoke(x, Integer.parseInt(argument));
    }

    public static void main(String[] args) throws IOException, ReflectiveOperationException {
        RepeatFinder x = new RepeatFinder();
        Set<String> shown = new TreeSet<>();
        int wrong = 0;
        for (String line : Files.readAllLines(Path.of("README.md"))) {
            Matcher row = CALL.matcher(line);
            if (row.matches()) {
                shown.add(row.group(1));
                int got = call(x, row.group(1), row.group(2));
                if (got != Integer.parseInt(row.group(3))) {
                    wrong++;
                    System.out.println("README.md says " + line + " and the answer is " + got);
                }
            } else if (line.startsWith("x.")) {
                wrong++;
                System.out.println("README.md says no answer: " + line);
            }
        }
        if (!shown.equals(METHODS)) {
            wrong++;
            System.out.println("README.md's example shows " + shown + ", due is " + new TreeSet<>(METHODS));
        }
        System.out.println(wrong == 0 ? "README.md's example is right" : "README.md's example is wrong");
        if (wrong != 0) {
            System.exit(1);
        }
    }
}
