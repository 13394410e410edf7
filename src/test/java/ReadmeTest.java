import java.io.IOException;
import java.lang.reflect.InvocationTargetException;
import java.lang.reflect.Method;
import java.lang.reflect.Modifier;
import java.nio.charset.StandardCharsets;
import java.nio.file.Files;
import java.nio.file.Path;
import java.util.ArrayList;
import java.util.List;
import java.util.Set;
import java.util.TreeSet;
import java.util.regex.Matcher;
import java.util.regex.Pattern;

/** README.md: its example is made call by call, and it names each call and each test. */
final class ReadmeTest {
    private static final Pattern CALL = Pattern.compile("debts\\.(\\w+)\\(([^)]*)\\);\\s*// (-?\\d+|true|false)(: .*)?");
    private static final Check CHECK = new Check();

    public static void main(String[] args) throws IOException, ReflectiveOperationException {
        String page = Files.readString(Path.of("README.md"));
        exampleHolds(page);
        exampleFeedsItsText(page);
        namesEachCall(page);
        namesEachTest(page);
        CHECK.finish();
    }

    private static String block(String page, String language) {
        Matcher found = Pattern.compile("(?s)```" + language + "\n(.*?)\n```").matcher(page);
        CHECK.yes("a block of " + language, found.find());
        String inside = found.group(1);
        CHECK.no("a second block of " + language, found.find());
        return inside;
    }

    private static void exampleHolds(String page) throws ReflectiveOperationException {
        CHECK.about("README.md: an example of calls and their answers that holds");
        MoonDebts debts = null;
        Set<String> called = new TreeSet<>();
        for (String line : block(page, "java").split("\n")) {
            if (line.equals("MoonDebts debts = new MoonDebts();")) {
                debts = new MoonDebts();
                continue;
            }
            if (line.isEmpty()) {
                continue;
            }
            Matcher call = CALL.matcher(line);
            CHECK.yes("a call with its answer: " + line, call.matches());
            CHECK.same(line, answerOf(debts, call.group(1), numbersOf(call.group(2))), dueOf(call.group(3)));
            called.add(call.group(1));
        }
        for (String name : face()) {
            CHECK.yes("the example calls " + name, called.contains(name));
        }
    }

    private static void exampleFeedsItsText(String page) {
        CHECK.about("README.md: how a text is fed and becomes a LAND");
        StringBuilder fed = new StringBuilder();
        int end = 0;
        for (String line : block(page, "java").split("\n")) {
            Matcher call = CALL.matcher(line);
            if (call.matches() && call.group(1).equals("feed")) {
                for (int number : numbersOf(call.group(2))) {
                    byte[] four = {(byte) (number >> 24), (byte) (number >> 16), (byte) (number >> 8), (byte) number};
                    fed.append(new String(four, StandardCharsets.ISO_8859_1));
                }
            } else if (call.matches() && call.group(1).equals("end")) {
                end = numbersOf(call.group(2))[0];
            }
        }
        String text = block(page, "text");
        CHECK.same("the bytes of the text, and end", end, text.length());
        CHECK.yes("what is fed is the text", fed.toString().equals(text + " ".repeat(fed.length() - text.length())));
    }

    private static void namesEachCall(String page) {
        CHECK.about("README.md: what the calls answer");
        for (String name : face()) {
            CHECK.yes("a row for " + name, page.contains("\n| `" + name + "("));
        }
    }

    private static void namesEachTest(String page) throws IOException {
        CHECK.about("README.md: how to run its tests");
        CHECK.yes(".ci/run", page.contains("\n    .ci/run\n") && Files.isExecutable(Path.of(".ci/run")));
        List<Path> tests = new ArrayList<>();
        try (var files = Files.newDirectoryStream(Path.of("src/test/java"), "*Test.java")) {
            files.forEach(tests::add);
        }
        for (Path test : tests) {
            CHECK.yes("names " + test, page.contains("`" + test.getFileName().toString().replace(".java", "") + "`"));
        }
    }

    private static Set<String> face() {
        Set<String> names = new TreeSet<>();
        for (Method m : MoonDebts.class.getDeclaredMethods()) {
            if (Modifier.isPublic(m.getModifiers())) {
                names.add(m.getName());
            }
        }
        return names;
    }

    private static int[] numbersOf(String told) {
        if (told.isEmpty()) {
            return new int[0];
        }
        String[] parts = told.split(", ");
        int[] numbers = new int[parts.length];
        for (int i = 0; i < parts.length; i++) {
            numbers[i] = parts[i].equals("MoonDebts.NONE") ? MoonDebts.NONE : Integer.decode(parts[i]);
        }
        return numbers;
    }

    private static long dueOf(String told) {
        if (told.equals("true")) {
            return 1;
        }
        return told.equals("false") ? 0 : Long.parseLong(told);
    }

    private static long answerOf(MoonDebts debts, String name, int[] numbers)
        throws IllegalAccessException, InvocationTargetException, NoSuchMethodException {
        Class<?>[] types = new Class<?>[numbers.length];
        Object[] boxed = new Object[numbers.length];
        for (int i = 0; i < numbers.length; i++) {
            types[i] = int.class;
            boxed[i] = numbers[i];
        }
        Object answer = MoonDebts.class.getMethod(name, types).invoke(debts, boxed);
        if (answer instanceof Boolean) {
            return (Boolean) answer ? 1 : 0;
        }
        return (Integer) answer;
    }
}
