import java.lang.reflect.Method;
import java.lang.reflect.Modifier;
import java.nio.file.Files;
import java.nio.file.Path;
import java.util.Set;
import java.util.TreeSet;
import java.util.regex.Matcher;
import java.util.regex.Pattern;

/** README.md tells how to use the class by a run of calls: each must answer what is told beside it. */
public final class ReadmeTest extends Due {
    private static final Pattern LINE =
        Pattern.compile("x\\.(\\w+)\\(([^)]*)\\);\\s*// (-?\\d+|NONE|BAD|FULL|TURN)(:.*)?");

    /** The tests are run from the root of the project. */
    public static void main(String[] args) throws Exception {
        String text = Files.readString(Path.of("README.md"));
        Set<String> told = new TreeSet<>();
        Watched x = new Watched();
        for (String line : exampleOf(text).split("\n")) {
            if (!line.startsWith("DistanceLabels x = ")) {
                told.add(tried(x, line));
            }
        }
        for (Method method : DistanceLabels.class.getDeclaredMethods()) {
            if (Modifier.isPublic(method.getModifiers())) {
                due("README.md tells " + method.getName(), told.contains(method.getName()) ? 1 : 0, 1);
            }
        }
        end();
    }

    private static String exampleOf(String text) {
        Matcher example = Pattern.compile("(?s)```java\n(.*?)\n```").matcher(text);
        due("README.md has an example", example.find() ? 1 : 0, 1);
        return example.group(1);
    }

    /** Makes the call of this line: its name. */
    private static String tried(Watched x, String line) {
        Matcher parts = LINE.matcher(line);
        if (!parts.matches()) {
            throw new IllegalArgumentException("README.md: no call with its answer: " + line);
        }
        Call call = new Call(parts.group(1), numbersOf(parts.group(2)));
        due("README.md: " + call, call.on(x), answerOf(parts.group(3)));
        return call.name();
    }

    private static int[] numbersOf(String told) {
        if (told.isEmpty()) {
            return a();
        }
        String[] words = told.split(", ");
        int[] numbers = new int[words.length];
        for (int i = 0; i < words.length; i++) {
            numbers[i] = words[i].equals("true") ? 1 : words[i].equals("false") ? 0 : Integer.parseInt(words[i]);
        }
        return numbers;
    }

    private static int answerOf(String told) {
        switch (told) {
            case "NONE":
                return NONE;
            case "BAD":
                return BAD;
            case "FULL":
                return FULL;
            case "TURN":
                return TURN;
            default:
                return Integer.parseInt(told);
        }
    }
}
