import java.lang.reflect.Method;
import java.nio.file.Files;
import java.nio.file.Path;
import java.util.regex.Matcher;
import java.util.regex.Pattern;

/** Runs the calls that README.md shows, in their order on one book, and looks at the answers that it tells. */
public final class ReadmeTest {
    private static final Pattern TEXT = Pattern.compile("^put\\(book, \"([^\"]*)\"\\);.*");
    private static final Pattern CALL = Pattern.compile("^book\\.(\\w+)\\(([-\\d, ]*)\\);\\s*// (-?\\d+)(:.*)?");

    private final Case told = new Case("README.md");
    private int calls;

    private ReadmeTest() {
    }

    public static void main(String[] args) throws Exception {
        ReadmeTest test = new ReadmeTest();
        for (String line : Files.readAllLines(Path.of("README.md"))) {
            test.run(line);
        }
        test.told.due("calls of README.md that are run, 20 or more", Math.min(test.calls, 20), 20);
        System.out.println(test.told.wrong == 0 ? "README.md is right, by " + test.told.asked + " answers"
                : test.told.wrong + " answers are not as due");
        if (test.told.wrong != 0) {
            System.exit(1);
        }
    }

    private void run(String line) throws ReflectiveOperationException {
        Matcher text = TEXT.matcher(line);
        Matcher call = CALL.matcher(line);
        if (text.matches()) {
            told.put(text.group(1));
        } else if (call.matches()) {
            calls++;
            told.due(line, answer(call.group(1), call.group(2)), Integer.parseInt(call.group(3)));
        } else if (line.startsWith("book.") || line.startsWith("put(")) {
            told.due("a call that can't be run: " + line, 0, 1);
        }
    }

    private int answer(String name, String arguments) throws ReflectiveOperationException {
        String[] numbers = arguments.isBlank() ? new String[0] : arguments.split(",");
        Class<?>[] types = new Class<?>[numbers.length];
        Object[] values = new Object[numbers.length];
        for (int i = 0; i < numbers.length; i++) {
            types[i] = int.class;
            values[i] = Integer.parseInt(numbers[i].trim());
        }
        Method asked = BallotBook.class.getMethod(name, types);
        return (Integer) asked.invoke(told.book, values);
    }
}
