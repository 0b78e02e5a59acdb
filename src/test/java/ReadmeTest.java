import java.lang.reflect.InvocationTargetException;
import java.lang.reflect.Method;
import java.lang.reflect.Modifier;
import java.nio.file.DirectoryStream;
import java.nio.file.Files;
import java.nio.file.Path;
import java.util.ArrayList;
import java.util.List;
import java.util.Map;
import java.util.Set;
import java.util.TreeSet;
import java.util.regex.Matcher;
import java.util.regex.Pattern;

/**
 * What README.md shows is what the class answers: every line of its Java blocks is a call with its
 * answer behind it, made here on a BarSteps and on a Model. Every call of the face is shown, and
 * the files that are named are there.
 */
public final class ReadmeTest {
    private static final String MADE = "BarSteps bar = new BarSteps();";
    private static final Pattern ROW =
        Pattern.compile("bar\\.(\\w+)\\((.*)\\); +// (-?\\d+|[A-Z]+)(: .+)?");
    private static final Pattern ARGUMENT = Pattern.compile("-?\\d+|'.'|(?<=BarSteps\\.)[A-Z]+");
    private static final Map<String, Long> NAMES = Map.of("NONE", (long) BarSteps.NONE,
        "BAD", (long) BarSteps.BAD, "STATE", (long) BarSteps.STATE, "FULL", (long) BarSteps.FULL,
        "NO", BarSteps.NO);
    private static final int MOST_CALLS = 512;

    private static int rows = 0;
    private static int wrong = 0;

    public static void main(String[] args) throws Exception {
        String readme = Files.readString(Path.of("README.md"));
        Set<String> shown = new TreeSet<>();
        for (List<String> block : blocksOf(readme)) {
            play(block, shown);
        }
        for (Method m : BarSteps.class.getDeclaredMethods()) {
            hold(m.getName() + " is shown", !Modifier.isPublic(m.getModifiers()) || shown.contains(m.getName()));
        }
        hold("some call is shown", rows > 0);
        files(readme);
        System.out.println("ReadmeTest: " + rows + " rows, " + wrong + " not so");
        if (wrong != 0) {
            System.exit(1);
        }
    }

    private static void hold(String what, boolean holds) {
        if (!holds) {
            wrong++;
            System.out.println("not so: " + what);
        }
    }

    /** The lines of each block that is told as Java. */
    private static List<List<String>> blocksOf(String readme) {
        List<List<String>> all = new ArrayList<>();
        List<String> open = null;
        for (String line : readme.split("\n")) {
            if (line.equals("```java")) {
                open = new ArrayList<>();
                all.add(open);
            } else if (line.startsWith("```")) {
                open = null;
            } else if (open != null && !line.isBlank()) {
                open.add(line);
            }
        }
        return all;
    }

    private static void play(List<String> block, Set<String> shown) throws Exception {
        BarSteps bar = new BarSteps();
        Model model = new Model();
        hold("a block makes its object: " + block.get(0), block.get(0).equals(MADE));
        hold("a block keeps to the calls that an object has", block.size() - 1 <= MOST_CALLS);
        for (String line : block.subList(1, block.size())) {
            Matcher row = ROW.matcher(line);
            if (!row.matches()) {
                hold("a call with its answer: " + line, false);
                continue;
            }
            rows++;
            shown.add(row.group(1));
            List<Long> numbers = numbersOf(row.group(2));
            long due = valueOf(row.group(3));
            long got = answer(bar, row.group(1), numbers);
            hold(line + " (it answered " + got + ")", got == due);
            long other = answer(model, row.group(1), numbers);
            hold(line + " (the model answered " + other + ")", other == due);
        }
    }

    private static List<Long> numbersOf(String between) {
        List<Long> numbers = new ArrayList<>();
        Matcher m = ARGUMENT.matcher(between);
        while (m.find()) {
            numbers.add(valueOf(m.group()));
        }
        return numbers;
    }

    private static long valueOf(String word) {
        if (NAMES.containsKey(word)) {
            return NAMES.get(word);
        }
        return word.charAt(0) == '\'' ? word.charAt(1) : Long.parseLong(word);
    }

    private static long answer(Object on, String call, List<Long> numbers) throws Exception {
        for (Method m : on.getClass().getDeclaredMethods()) {
            if (m.getName().equals(call) && m.getParameterCount() == numbers.size()) {
                Object[] given = new Object[numbers.size()];
                for (int i = 0; i < given.length; i++) {
                    given[i] = numbers.get(i).intValue();
                }
                try {
                    return ((Number) m.invoke(on, given)).longValue();
                } catch (InvocationTargetException e) {
                    hold(call + numbers + " threw " + e.getCause(), false);
                }
            }
        }
        hold("there is a call " + call + " of " + numbers.size(), false);
        return 0;
    }

    /** Each test is named, and each Java file that is named is there. */
    private static void files(String readme) throws Exception {
        Path tests = Path.of("src/test/java");
        try (DirectoryStream<Path> all = Files.newDirectoryStream(tests, "*.java")) {
            for (Path test : all) {
                String name = test.getFileName().toString().replace(".java", "");
                hold(name + " is named", readme.contains("`" + name + "`"));
            }
        }
        Matcher named = Pattern.compile("`([A-Z]\\w*Test)`").matcher(readme);
        while (named.find()) {
            hold(named.group(1) + " is there", Files.exists(tests.resolve(named.group(1) + ".java")));
        }
        Matcher path = Pattern.compile("\\b(src/[\\w/]+\\.java|\\.ci/run)\\b").matcher(readme);
        while (path.find()) {
            hold(path.group() + " is there", Files.exists(Path.of(path.group())));
        }
    }
}
