import java.io.IOException;
import java.nio.file.Files;
import java.nio.file.Path;
import java.util.regex.Matcher;
import java.util.regex.Pattern;

/** What README.md tells: the answers of its run of calls, and that it names every call. */
public final class ReadmeTests {
    private static final Path README = Path.of("README.md");
    private static final Pattern LINE = Pattern.compile(
            "(int n = )?x\\.(\\w+)\\(([^)]*)\\); *// (true|false|-?\\d+)(:.*)?");

    public static void main(String[] args) throws IOException {
        String text = Files.readString(README);
        toldRun(text);
        for (String name : Call.NAMES) {
            Check.due("README.md tells of " + name, text.contains("| `" + name + "("), true);
        }
        Check.end();
    }

    private static void toldRun(String text) {
        Matcher block = Pattern.compile("```java\n(.*?)```", Pattern.DOTALL).matcher(text);
        Check.due("README.md has a run of calls", block.find(), true);
        String[] lines = block.group(1).split("\n");
        Check.due(lines[0], lines[0].equals("TreeMachines x = new TreeMachines();"), true);
        TreeMachines x = new TreeMachines();
        long n = -1;
        for (int i = 1; i < lines.length; i++) {
            Matcher line = LINE.matcher(lines[i]);
            if (!line.matches()) {
                Check.fail("README.md's run has the line " + lines[i]);
                continue;
            }
            long got = new Call(line.group(2), numbers(line.group(3), n)).on(x);
            Check.due("README.md's " + lines[i], got, number(line.group(4), n));
            n = line.group(1) == null ? n : got;
        }
    }

    private static int[] numbers(String list, long n) {
        String[] words = list.isEmpty() ? new String[0] : list.split(", ");
        int[] numbers = new int[words.length];
        for (int i = 0; i < words.length; i++) {
            numbers[i] = (int) number(words[i], n);
        }
        return numbers;
    }

    private static long number(String word, long n) {
        switch (word) {
            case "true":
                return 1;
            case "false":
                return 0;
            case "n":
                return n;
            default:
                return Integer.parseInt(word);
        }
    }
}
