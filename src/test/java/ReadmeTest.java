import java.io.IOException;
import java.lang.reflect.Method;
import java.nio.file.Files;
import java.nio.file.Path;
import java.util.ArrayList;
import java.util.List;
import java.util.regex.Matcher;
import java.util.regex.Pattern;

/** README.md: its examples answer as it says, and it tells of every call and every refusal. */
public final class ReadmeTest {
    private static final Path README = Path.of("README.md");
    private static final Path SOURCE = Path.of("src/main/java/ReservoirMind.java");
    private static final Pattern CALL = Pattern.compile("mind\\.(\\w+)\\(([-\\d, ]*)\\)");
    private static final Pattern FED = Pattern.compile("for \\(char sign : \"(.*)\"\\.toCharArray\\(\\)\\) \\{");
    private static final Pattern SIGNATURE = Pattern.compile("(?m)^ {4}public (?:int|long) (\\w+)\\((.*)\\) \\{$");

    private static ReservoirMind mind = new ReservoirMind();
    private static int answers = 0;

    public static void main(String[] args) throws IOException, ReflectiveOperationException {
        String readme = Files.readString(README);
        Matcher block = Pattern.compile("(?s)```java\n(.*?)```").matcher(readme);
        while (block.find()) {
            for (String line : block.group(1).split("\n")) {
                example(line.strip());
            }
        }
        Due.holds("answers were looked at: " + answers, answers > 30);
        everyCallIsTold(readme);
        everyRefusalIsTold(readme);
        everyTestIsTold(readme);
        Due.end("ReadmeTest");
    }

    private static void example(String line) throws ReflectiveOperationException {
        Matcher fed = FED.matcher(line);
        if (line.equals("ReservoirMind mind = new ReservoirMind();")) {
            mind = new ReservoirMind();
        } else if (fed.matches()) {
            for (char sign : fed.group(1).toCharArray()) {
                mind.feed(sign);
            }
        } else if (!line.equals("mind.feed(sign);") && !line.equals("}")) {
            Matcher said = Pattern.compile("(.*); +// ([-\\w.]+)(:.*)?").matcher(line);
            Due.holds("a line that says its answer: " + line, said.matches());
            Due.holds("as README says: " + line, answerOf(said.group(1)).equals(number(said.group(2))));
            answers++;
        }
    }

    private static String answerOf(String words) throws ReflectiveOperationException {
        Matcher call = CALL.matcher(words);
        if (!call.find()) {
            return "no call";
        }
        long got = answer(call.group(1), call.group(2).isBlank() ? new String[0] : call.group(2).split(", "));
        String rest = words.replace(call.group(), "");
        switch (rest) {
            case "":
                return String.valueOf(got);
            case "Float.intBitsToFloat((int) )":
                return String.valueOf(Float.intBitsToFloat((int) got));
            case " < 0":
                return String.valueOf(got < 0);
            default:
                return "not known: " + rest;
        }
    }

    private static long answer(String name, String[] words) throws ReflectiveOperationException {
        for (Method m : ReservoirMind.class.getMethods()) {
            if (m.getName().equals(name) && m.getParameterCount() == words.length) {
                List<Object> numbers = new ArrayList<>();
                for (int k = 0; k < words.length; k++) {
                    boolean isLong = m.getParameterTypes()[k] == long.class;
                    numbers.add(isLong ? (Object) Long.valueOf(words[k]) : (Object) Integer.valueOf(words[k]));
                }
                return ((Number) m.invoke(mind, numbers.toArray())).longValue();
            }
        }
        throw new IllegalStateException("README has a call that there isn't: " + name);
    }

    /** A constant by its name. */
    private static String number(String word) throws ReflectiveOperationException {
        boolean isName = word.chars().allMatch(Character::isUpperCase);
        return isName ? String.valueOf(ReservoirMind.class.getField(word).get(null)) : word;
    }

    private static void everyCallIsTold(String readme) throws IOException {
        Matcher call = SIGNATURE.matcher(Files.readString(SOURCE));
        int many = 0;
        while (call.find()) {
            String words = call.group(1) + "(" + call.group(2).replaceAll("\\b(int|long) ", "") + ")";
            Due.holds("README tells of " + words, readme.contains("| `" + words + "` | "));
            many++;
        }
        Due.is("calls of the face", many, 42);
    }

    private static void everyRefusalIsTold(String readme) {
        for (String row : new String[] {"| `NONE` | -1 |", "| `BAD` | -2 |", "| `STATE` | -3 |", "| `FULL` | -4 |",
            "| -11 | NOTHING |", "| -12 | CAST |", "| -13 | PLACE |", "| -14 | SIZE |", "| `NO` | `Long.MIN_VALUE` |"}) {
            Due.holds("README tells of " + row, readme.contains(row));
        }
    }

    private static void everyTestIsTold(String readme) throws IOException {
        try (var files = Files.list(Path.of("src/test/java"))) {
            for (Path file : (Iterable<Path>) files::iterator) {
                String name = file.getFileName().toString().replace(".java", "");
                Due.holds("README tells of " + name, !name.endsWith("Test") || readme.contains("`" + name + "`"));
            }
        }
    }
}
