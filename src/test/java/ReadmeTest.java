import java.io.IOException;
import java.lang.reflect.InvocationTargetException;
import java.lang.reflect.Method;
import java.nio.file.Files;
import java.nio.file.Path;
import java.util.ArrayList;
import java.util.List;
import java.util.NoSuchElementException;
import java.util.regex.Matcher;
import java.util.regex.Pattern;
import java.util.stream.Stream;

/** README.md tells how to use the class: its calls answer as it says, and it leaves no call and no test out. */
public final class ReadmeTest {
    private static final Pattern CALL =
        Pattern.compile("x\\.(\\w+)\\(([^)]*)\\);\\s*// (-?\\d+|true|false|throws NoSuchElementException)\\b.*");
    private static final String BEGIN = "PanesOfTheDead x = new PanesOfTheDead();";
    private static final Check check = new Check();

    public static void main(String[] args) throws Exception {
        String page = Files.readString(Path.of("README.md"));
        calls(page);
        helper(page);
        texts(page);
        names(page);
        tests(page);
        check.close();
    }

    /** Each line of a run that begins with a new object is a call with its answer, so that none is passed over. */
    private static void calls(String page) throws Exception {
        int made = 0;
        for (String block : blocks(page)) {
            if (!block.startsWith(BEGIN)) continue;
            PanesOfTheDead x = new PanesOfTheDead();
            for (String line : block.substring(BEGIN.length()).strip().split("\n")) {
                check.about("README.md: " + line);
                Matcher call = CALL.matcher(line);
                boolean reads = call.matches();
                check.yes(reads);
                if (reads) check.yes(answer(x, call.group(1), call.group(2)).equals(call.group(3)));
                made++;
            }
        }
        check.about("README.md has a run of calls");
        check.yes(made > 0 && made <= 512);
    }

    private static List<String> blocks(String page) {
        List<String> blocks = new ArrayList<>();
        Matcher block = Pattern.compile("```java\n(.*?)```", Pattern.DOTALL).matcher(page);
        while (block.find()) blocks.add(block.group(1));
        return blocks;
    }

    private static String answer(PanesOfTheDead x, String name, String told) throws IllegalAccessException {
        String[] words = told.isEmpty() ? new String[0] : told.split(", ");
        Object[] numbers = new Object[words.length];
        for (int i = 0; i < words.length; i++) numbers[i] = (int) (long) Long.decode(words[i]);
        for (Method m : PanesOfTheDead.class.getMethods()) {
            if (!m.getName().equals(name) || m.getParameterCount() != numbers.length) continue;
            try {
                return String.valueOf(m.invoke(x, numbers));
            } catch (InvocationTargetException e) {
                boolean none = e.getCause() instanceof NoSuchElementException;
                return "throws " + (none ? "NoSuchElementException" : String.valueOf(e.getCause()));
            }
        }
        return "no such call";
    }

    /** The method that the page shows is the one by which the tests tell texts. */
    private static void helper(String page) throws IOException {
        check.about("README.md: how a text is told");
        String tests = Files.readString(Path.of("src/test/java/Check.java"));
        int shown = 0;
        for (String block : blocks(page)) {
            if (block.startsWith(BEGIN)) continue;
            check.yes(tests.contains(block));
            shown++;
        }
        check.due(1, shown);
    }

    private static void texts(String page) {
        PanesOfTheDead x = new PanesOfTheDead();
        told(page, "23");
        check.due(6, Check.text(x, "23").square());
        told(page, "a500r;b911s");
        check.due(2, Check.text(x, "a500r;b911s").things());
        told(page, "5b;9;4ac");
        check.due(3, Check.text(x, "5b;9;4ac").panes());
        told(page, "022;101");
        check.due(2, Check.text(x, "022;101").rooms());
        told(page, "(h=0)*(s<l+1)");
        check.due(0, Check.text(x, "(h=0)*(s<l+1)").law());
        check.due(0, Check.text(x, "(h=0)*(s<l+1)").rule());
        told(page, "ab;c");
        check.due(1, Check.text(x, "ab;c").claims());
        told(page, "p00h3b0o0c012s");
        check.due(5, Check.text(x, "p00h3b0o0c012s").day());
    }

    private static void told(String page, String text) {
        check.about("README.md: " + text);
        check.yes(page.contains("`" + text + "` |"));
    }

    private static void names(String page) {
        for (Method m : PanesOfTheDead.class.getMethods()) {
            if (m.getDeclaringClass() != PanesOfTheDead.class) continue;
            check.about("README.md names " + m.getName());
            check.yes(page.contains("`" + m.getName() + "`"));
        }
    }

    private static void tests(String page) throws IOException {
        check.about("README.md: how the tests are run");
        check.yes(page.contains("`.ci/run`") && Files.exists(Path.of(".ci/run")));
        try (Stream<Path> files = Files.list(Path.of("src/test/java"))) {
            for (Path file : (Iterable<Path>) files::iterator) {
                String name = file.getFileName().toString().replace(".java", "");
                if (!name.endsWith("Test")) continue;
                check.about("README.md names " + name);
                check.yes(page.contains("`" + name + "`"));
            }
        }
    }
}
