import java.io.IOException;
import java.lang.reflect.Method;
import java.lang.reflect.Modifier;
import java.nio.file.Files;
import java.nio.file.Path;
import java.util.ArrayList;
import java.util.Arrays;
import java.util.List;
import java.util.Set;
import java.util.TreeSet;
import java.util.regex.Matcher;
import java.util.regex.Pattern;
import java.util.stream.Collectors;
import java.util.stream.Stream;

/** What README.md says of the use of the class and of its tests is so. Run from the project's top directory. */
public final class ReadmeTest {
    private static final Pattern CALL = Pattern.compile("x\\.(\\w+)\\(([-0-9, ]*)\\);\\s+// ([-\\w]+)(?:: (.*))?");
    private static final Pattern STATE = Pattern.compile("row ([-0-9 ]+)(?:, clip ([-0-9 ]+))?");

    private record Shown(String line, String name, int[] arguments, int answer) {
    }

    public static void main(String[] args) throws IOException, ReflectiveOperationException {
        List<String> readme = Files.readAllLines(Path.of("README.md"));
        theCallsAnswerWhatIsSaid(fenced(readme, "java"));
        theCommandIsThere(fenced(readme, "sh"));
        theTestsAreTheOnesNamed(readme);
        Check.finish();
    }

    /** Each call is looked at on a new object that has had the calls before it, since the look empties the clip. */
    private static void theCallsAnswerWhatIsSaid(List<String> lines) throws ReflectiveOperationException {
        List<Shown> sofar = new ArrayList<>();
        Set<String> names = new TreeSet<>();
        State then = State.of();
        for (String line : lines) {
            Matcher call = CALL.matcher(line);
            boolean isCall = call.matches();
            boolean isOther = line.isEmpty() || line.equals("SplayRow x = new SplayRow();");
            Check.due("README: '" + line + "' can be understood", isCall || isOther, true);
            if (isCall) {
                sofar.add(new Shown(line, call.group(1), numbers(call.group(2)), answer(call.group(3))));
                names.add(call.group(1));
                then = stateAfter(then, call.group(4));
                sameAsShown(sofar, then);
            }
        }
        Check.due("README shows " + names + ", the class has " + methods(), names.equals(methods()), true);
    }

    /** A line that tells no row is of a call that changes nothing. */
    private static State stateAfter(State before, String told) {
        Matcher state = STATE.matcher(told == null ? "" : told);
        if (!state.matches()) {
            return before;
        }
        return new State(numbers(state.group(1)), numbers(state.group(2) == null ? "" : state.group(2)));
    }

    private static void sameAsShown(List<Shown> calls, State then) throws ReflectiveOperationException {
        SplayRow x = new SplayRow();
        int got = 0;
        for (Shown call : calls) {
            got = make(x, call);
        }
        Shown last = calls.get(calls.size() - 1);
        Check.due("README: " + last.line(), got, last.answer());
        then.isIn(x, "README: after " + last.line());
    }

    private static int make(SplayRow x, Shown call) throws ReflectiveOperationException {
        Class<?>[] types = new Class<?>[call.arguments().length];
        Arrays.fill(types, int.class);
        Object[] arguments = Arrays.stream(call.arguments()).boxed().toArray();
        Object got = SplayRow.class.getMethod(call.name(), types).invoke(x, arguments);
        return answer(got.toString());
    }

    private static int answer(String word) {
        switch (word) {
            case "BAD_ARG": return SplayRow.BAD_ARG;
            case "FULL": return SplayRow.FULL;
            case "NONE": return SplayRow.NONE;
            case "true": return 1;
            case "false": return 0;
            default: return Integer.parseInt(word);
        }
    }

    private static int[] numbers(String text) {
        return Pattern.compile("-?\\d+").matcher(text).results().mapToInt(r -> Integer.parseInt(r.group())).toArray();
    }

    private static Set<String> methods() {
        return Arrays.stream(SplayRow.class.getDeclaredMethods())
                .filter(m -> Modifier.isPublic(m.getModifiers()))
                .map(Method::getName)
                .collect(Collectors.toCollection(TreeSet::new));
    }

    private static void theCommandIsThere(List<String> commands) {
        Check.due("README: commands named", commands.size(), 1);
        for (String command : commands) {
            Check.due("README: " + command + " can be run", Files.isExecutable(Path.of(command)), true);
        }
    }

    private static void theTestsAreTheOnesNamed(List<String> readme) throws IOException {
        Set<String> named = Pattern.compile("`(\\w+Test)`").matcher(String.join("\n", readme)).results()
                .map(r -> r.group(1)).collect(Collectors.toCollection(TreeSet::new));
        Set<String> there;
        try (Stream<Path> files = Files.list(Path.of("src/test/java"))) {
            there = files.map(f -> f.getFileName().toString())
                    .filter(f -> f.endsWith("Test.java"))
                    .map(f -> f.substring(0, f.length() - ".java".length()))
                    .collect(Collectors.toCollection(TreeSet::new));
        }
        Check.due("README names the tests " + named + ", there are " + there, named.equals(there), true);
    }

    /** The lines of the blocks of that language. */
    private static List<String> fenced(List<String> lines, String language) {
        List<String> found = new ArrayList<>();
        boolean inside = false;
        for (String line : lines) {
            if (line.startsWith("```")) {
                inside = line.equals("```" + language);
            } else if (inside) {
                found.add(line);
            }
        }
        return found;
    }
}
