import java.io.File;
import java.io.IOException;
import java.lang.reflect.InvocationTargetException;
import java.lang.reflect.Method;
import java.lang.reflect.Modifier;
import java.nio.file.Files;
import java.nio.file.Path;
import java.util.TreeSet;
import java.util.regex.Matcher;
import java.util.regex.Pattern;

/** README.md: its calls answer what stands behind them, and it shows every call and names every test. */
public final class ReadmeTest {
    private static final String MAKING = "FairquotaBroker broker = new FairquotaBroker();";
    /** The call's name, its numbers, and its answer up to a colon. */
    private static final Pattern CALL = Pattern.compile("broker\\.(\\w+)\\(([-\\d, ]*)\\); +// ([^:]+?)(: .+)?");
    private static final int MOST_CALLS = 512;

    private final Check check = new Check();
    private final TreeSet<String> shown = new TreeSet<>();
    private FairquotaBroker broker;
    private int calls;

    public static void main(String[] args) throws IOException {
        ReadmeTest test = new ReadmeTest();
        String page = Files.readString(Path.of("README.md"));
        test.examples(page);
        test.showsEveryCall();
        test.namesEveryTest(page);
        test.check.end("ReadmeTest");
    }

    private void examples(String page) {
        Matcher block = Pattern.compile("(?s)```java\n(.*?)```").matcher(page);
        while (block.find()) {
            broker = null;
            for (String line : block.group(1).split("\n")) read(line);
        }
    }

    private void read(String line) {
        Matcher call = CALL.matcher(line);
        if (line.equals(MAKING)) {
            broker = new FairquotaBroker();
            calls = 0;
        } else if (broker == null || !call.matches()) {
            check.is("README: " + line + " | is a call of a broker, with its answer", false, true);
        } else {
            calls++;
            shown.add(call.group(1));
            check.is("README: " + line, answer(call.group(1), call.group(2)), call.group(3));
            check.is("README: " + line + " | is one of the first 512 calls", calls <= MOST_CALLS, true);
        }
    }

    private String answer(String name, String numbers) {
        Object[] given = numbersOf(numbers);
        for (Method method : FairquotaBroker.class.getDeclaredMethods()) {
            if (isCall(method) && method.getName().equals(name) && method.getParameterCount() == given.length) {
                return answerOf(method, given);
            }
        }
        return "no such call";
    }

    private String answerOf(Method method, Object[] given) {
        try {
            return String.valueOf(method.invoke(broker, given));
        } catch (InvocationTargetException e) {
            return "throws " + e.getCause().getClass().getSimpleName();
        } catch (IllegalAccessException e) {
            return "no public call";
        }
    }

    private static Object[] numbersOf(String numbers) {
        if (numbers.isEmpty()) return new Object[0];
        String[] texts = numbers.split(", ");
        Object[] found = new Object[texts.length];
        for (int i = 0; i < texts.length; i++) found[i] = Integer.valueOf(texts[i]);
        return found;
    }

    private static boolean isCall(Method method) {
        return Modifier.isPublic(method.getModifiers());
    }

    private void showsEveryCall() {
        for (Method method : FairquotaBroker.class.getDeclaredMethods()) {
            if (isCall(method)) {
                check.is("README shows " + method.getName(), shown.contains(method.getName()), true);
            }
        }
    }

    private void namesEveryTest(String page) {
        check.is("README names .ci/run", page.contains("\n    .ci/run\n"), true);
        File[] tests = new File("src/test/java").listFiles((folder, name) -> name.endsWith("Test.java"));
        check.is("tests are found", tests != null && tests.length > 0, true);
        if (tests == null) return;
        for (File test : tests) {
            String name = test.getName().replace(".java", "");
            check.is("README tells of " + name, page.contains("\n- `" + name + "`: "), true);
        }
    }
}
