import java.io.ByteArrayOutputStream;
import java.io.IOException;
import java.io.PrintStream;
import java.nio.charset.StandardCharsets;
import java.nio.file.Files;
import java.nio.file.Path;
import java.util.ArrayList;
import java.util.List;
import java.util.Set;
import java.util.TreeSet;
import java.util.regex.Matcher;
import java.util.regex.Pattern;
import java.util.stream.Stream;

/** What README.md tells is so: its halls can be read, its example answers as told, its tests are all there. */
public final class ReadmeTest {
    private static final Path TESTS = Path.of("src/test/java");

    public static void main(String[] args) throws IOException {
        String readme = Files.readString(Path.of("README.md"), StandardCharsets.UTF_8);
        halls(readme);
        example(readme);
        methods(readme);
        tests(readme);
        Check.end();
    }

    /** Each paragraph that is a text of a HALL is read without a FAULT. */
    private static void halls(String readme) {
        int found = 0;
        for (String paragraph : readme.replaceAll("```\\w*", "").split("\n\\s*\n")) {
            String text = paragraph.strip();
            if (text.startsWith("hall cards")) {
                found++;
                BingoHall x = new BingoHall();
                long lines = text.chars().filter(sign -> sign == ';').count();
                Check.due("hall() of\n" + text + "\n", Check.read(x, text), lines);
            }
        }
        Check.due("texts in README.md", found > 0 ? 1 : 0, 1);
    }

    /** README.md shows the whole of Example.java, and what it prints. */
    private static void example(String readme) throws IOException {
        String source = Files.readString(TESTS.resolve("Example.java"), StandardCharsets.UTF_8);
        Check.due("README.md shows Example.java", blocks(readme, "java").contains(source) ? 1 : 0, 1);
        String printed = printedByExample();
        boolean isShown = blocks(readme, "text").contains(printed);
        Check.due("README.md shows what Example prints:\n" + printed, isShown ? 1 : 0, 1);
    }

    private static String printedByExample() {
        PrintStream before = System.out;
        ByteArrayOutputStream bytes = new ByteArrayOutputStream();
        System.setOut(new PrintStream(bytes, true, StandardCharsets.UTF_8));
        try {
            Example.main(new String[0]);
        } finally {
            System.setOut(before);
        }
        return bytes.toString(StandardCharsets.UTF_8).replace("\r\n", "\n");
    }

    private static List<String> blocks(String readme, String language) {
        List<String> found = new ArrayList<>();
        Matcher block = Pattern.compile("(?s)```" + language + "\n(.*?)```").matcher(readme);
        while (block.find()) {
            found.add(block.group(1));
        }
        return found;
    }

    /** README.md names each method of the face. */
    private static void methods(String readme) {
        Set<String> missing = new TreeSet<>();
        for (java.lang.reflect.Method method : BingoHall.class.getMethods()) {
            if (method.getDeclaringClass() == BingoHall.class && !readme.contains("`" + method.getName() + "`")) {
                missing.add(method.getName());
            }
        }
        Check.due("methods that README.md does not name " + missing, missing.size(), 0);
    }

    /** README.md names each test of the project, and none that there isn't. */
    private static void tests(String readme) throws IOException {
        Set<String> there = new TreeSet<>();
        try (Stream<Path> files = Files.list(TESTS)) {
            files.map(file -> file.getFileName().toString()).filter(name -> name.endsWith("Test.java"))
                .forEach(name -> there.add(name.replace(".java", "")));
        }
        Set<String> told = new TreeSet<>();
        Matcher names = Pattern.compile("`(\\w+Test)`").matcher(readme);
        while (names.find()) {
            told.add(names.group(1));
        }
        Check.due("tests: there are " + there + ", README.md tells " + told, there.equals(told) ? 1 : 0, 1);
    }
}
