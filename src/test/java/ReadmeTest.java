import java.io.IOException;
import java.lang.reflect.Method;
import java.lang.reflect.Modifier;
import java.nio.file.Files;
import java.nio.file.Path;
import java.util.ArrayList;
import java.util.List;
import java.util.Set;
import java.util.TreeSet;
import java.util.regex.Matcher;
import java.util.regex.Pattern;
import java.util.stream.Stream;

/** What README.md says of the use of the class and of its tests holds as it is written there. */
public final class ReadmeTest {
    private static final Path TESTS = Path.of("src/test/java");
    private static final Pattern NEW = Pattern.compile("SqueezedAnswers x = new SqueezedAnswers\\(\\);");
    private static final Pattern FEED = Pattern.compile("for \\(char c : \"([^\"]*)\"\\.toCharArray\\(\\)\\) x\\.feed\\(c\\);");
    private static final Pattern CALL = Pattern.compile("x\\.(\\w+)\\(([-0-9, ]*)\\); +// (-?\\d+)(:.*)?");
    private static final Pattern PROMISE = Pattern.compile("Promise(\\d\\d)\\w+Test");

    private final Check check = new Check("ReadmeTest");
    private final Set<String> shown = new TreeSet<>();
    private SqueezedAnswers x;
    private int calls;

    public static void main(String[] args) throws IOException, ReflectiveOperationException {
        String readme = Files.readString(Path.of("README.md"));
        ReadmeTest test = new ReadmeTest();
        test.blocks(readme);
        test.wholeFace();
        test.testsNamed(readme);
        test.filesNamed(readme);
        test.check.finish();
    }

    private void blocks(String readme) throws ReflectiveOperationException {
        check.sentence("the blocks are one run, each call with its answer");
        Matcher block = Pattern.compile("(?s)```java\n(.*?)```").matcher(readme);
        while (block.find()) {
            for (String line : block.group(1).split("\n")) {
                ask(line);
            }
        }
        check.that("an object is good for 512 calls, not " + calls, calls <= 512);
    }

    private void ask(String line) throws ReflectiveOperationException {
        Matcher feed = FEED.matcher(line);
        Matcher call = CALL.matcher(line);
        if (NEW.matcher(line).matches()) {
            x = new SqueezedAnswers();
        } else if (feed.matches()) {
            Check.feed(x, feed.group(1));
            calls += feed.group(1).length();
        } else if (call.matches()) {
            check.due(line, answer(call.group(1), numbers(call.group(2))), Integer.parseInt(call.group(3)));
            shown.add(call.group(1));
            calls++;
        } else {
            check.that("a line of a known form: " + line, false);
        }
    }

    private static Object[] numbers(String list) {
        List<Object> all = new ArrayList<>();
        for (String one : list.isEmpty() ? new String[0] : list.split(", ")) {
            all.add(Integer.parseInt(one));
        }
        return all.toArray();
    }

    private int answer(String name, Object[] arguments) throws ReflectiveOperationException {
        Class<?>[] types = new Class<?>[arguments.length];
        java.util.Arrays.fill(types, int.class);
        return (Integer) SqueezedAnswers.class.getMethod(name, types).invoke(x, arguments);
    }

    private void wholeFace() {
        check.sentence("every call of the face is shown");
        for (Method m : SqueezedAnswers.class.getDeclaredMethods()) {
            if (Modifier.isPublic(m.getModifiers())) {
                check.that(m.getName() + " is shown", shown.contains(m.getName()));
            }
        }
    }

    /** The promises' tests stand in the table as one row, from the first to the last. */
    private void testsNamed(String readme) throws IOException {
        check.sentence("every test is named");
        Set<Integer> promises = new TreeSet<>();
        try (Stream<Path> files = Files.list(TESTS)) {
            for (Path file : files.toList()) {
                String name = file.getFileName().toString().replace(".java", "");
                Matcher promise = PROMISE.matcher(name);
                if (promise.matches()) {
                    promises.add(Integer.parseInt(promise.group(1)));
                } else if (name.endsWith("Test")) {
                    check.that(name + " has a row", readme.contains("| " + name + " |"));
                }
            }
        }
        check.due("promises with a test", promises.size(), 35);
        for (int n = 1; n <= 35; n++) {
            check.that("promise " + n + " has a test", promises.contains(n));
        }
    }

    private void filesNamed(String readme) {
        check.sentence("every test and file that is named is there");
        Matcher test = Pattern.compile("\\b[A-Z]\\w+Test\\b").matcher(readme);
        while (test.find()) {
            check.that(test.group() + " is there", Files.exists(TESTS.resolve(test.group() + ".java")));
        }
        for (String helper : new String[] {"Model", "Past", "Look"}) {
            check.that(helper + " is named and there",
                readme.contains("`" + helper + "`") && Files.exists(TESTS.resolve(helper + ".java")));
        }
        for (String file : new String[] {"src/main/java/SqueezedAnswers.java", "../shared/DOC.md", "../shared/LANGUAGE.md",
            "../shared/tests", ".ci/run"}) {
            check.that(file + " is named and there", readme.contains(file) && Files.exists(Path.of(file)));
        }
        check.that(".ci/run can be run", Files.isExecutable(Path.of(".ci/run")));
    }
}
