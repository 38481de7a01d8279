import java.io.BufferedReader;
import java.io.InputStreamReader;
import java.lang.reflect.Method;
import java.lang.reflect.Modifier;
import java.util.Arrays;
import java.util.List;
import java.util.Set;
import java.util.TreeSet;
import java.util.regex.Matcher;
import java.util.regex.Pattern;

/** Makes the calls of the example in README.md, which comes by standard input: they answer what it says. */
public final class ReadmeTest {
    private static final String MAKING = "StrictOffsets machine = new StrictOffsets();";
    /** A call with the answer behind it: a number or a constant's name, and what else there is to say of it. */
    private static final Pattern CALL =
            Pattern.compile("machine\\.(\\w+)\\(([-\\d, ]*)\\); +// (-?\\d+|[A-Z_]+)(: .*)?");

    private static final Due DUE = new Due("ReadmeTest");
    private static final Set<String> CALLED = new TreeSet<>();

    private static StrictOffsets machine;

    public static void main(String[] args) throws Exception {
        for (String line : example()) {
            if (line.equals(MAKING)) {
                machine = new StrictOffsets();
            } else if (!line.isBlank()) {
                askLine(line);
            }
        }
        for (Method method : StrictOffsets.class.getDeclaredMethods()) {
            if (Modifier.isPublic(method.getModifiers())) {
                due("the example calls " + method.getName(), CALLED.contains(method.getName()));
            }
        }
        DUE.end();
    }

    private static void due(String what, boolean isSo) {
        DUE.due(what, isSo ? 1 : 0, 1);
    }

    /** The lines of README.md that stand in a block of Java. */
    private static List<String> example() {
        BufferedReader readme = new BufferedReader(new InputStreamReader(System.in));
        return readme.lines()
                .dropWhile(line -> !line.equals("```java"))
                .skip(1)
                .takeWhile(line -> !line.equals("```"))
                .toList();
    }

    private static void askLine(String line) throws Exception {
        Matcher call = CALL.matcher(line);
        due("is a call with its answer: " + line, call.matches());
        if (call.matches()) {
            CALLED.add(call.group(1));
            DUE.due(line, answer(call.group(1), numbers(call.group(2))), number(call.group(3)));
        }
    }

    private static Object[] numbers(String list) {
        return Arrays.stream(list.split(", ")).filter(text -> !text.isEmpty()).map(Integer::valueOf).toArray();
    }

    private static int answer(String name, Object[] arguments) throws Exception {
        Class<?>[] types = new Class<?>[arguments.length];
        Arrays.fill(types, int.class);
        return (Integer) StrictOffsets.class.getMethod(name, types).invoke(machine, arguments);
    }

    private static int number(String answer) throws Exception {
        boolean isName = Character.isLetter(answer.charAt(0));
        return isName ? StrictOffsets.class.getField(answer).getInt(null) : Integer.parseInt(answer);
    }
}
