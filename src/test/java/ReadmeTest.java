import java.io.IOException;
import java.lang.reflect.Method;
import java.nio.file.DirectoryStream;
import java.nio.file.Files;
import java.nio.file.Path;
import java.util.regex.Matcher;
import java.util.regex.Pattern;

/** README.md's calls answer what it says beside them, and its table names every test. */
final class ReadmeTest {
    private static final Pattern BLOCK = Pattern.compile("(?s)```java\n(.*?)```");
    private static final Pattern PUT = Pattern.compile("put\\(x, \"([^\"]*)\"\\);");
    private static final Pattern CALL = Pattern.compile("x\\.(\\w+)\\(([^)]*)\\); +// (-?\\w+).*");

    public static void main(String[] args) throws IOException, ReflectiveOperationException {
        String readme = Files.readString(Path.of("README.md"));
        Matcher blocks = BLOCK.matcher(readme);
        Check.due("a block that puts a text on the tape", true, blocks.find());
        showsPut(blocks.group(1));
        Check.due("a block of calls", true, blocks.find());
        answersAsSaid(blocks.group(1));
        namesEveryTest(readme);
        Check.end();
    }

    private static void showsPut(String block) throws IOException {
        String source = Files.readString(Path.of("src/test/java/ReadmeTest.java"));
        String shown = block.strip().replaceAll("(?m)^", "    ");
        Check.due("the block is put(), as it stands below", true, source.contains(" " + shown.strip() + "\n"));
    }

    static void put(DewBaron x, String text) {
        int[] five = new int[5];
        for (int at = 0; at < text.length(); at += 20) {
            for (int i = 0; i < 20; i++) {
                int octet = at + i < text.length() ? text.charAt(at + i) : 0;
                five[i / 4] = five[i / 4] << 8 | octet;
            }
            x.feed(five[0], five[1], five[2], five[3], five[4]);
        }
        x.end(text.length());
    }

    private static void answersAsSaid(String block) throws ReflectiveOperationException {
        DewBaron x = new DewBaron();
        int calls = 0;
        for (String line : block.split("\n")) {
            Matcher text = PUT.matcher(line);
            Matcher call = CALL.matcher(line);
            if (text.matches()) {
                put(x, text.group(1));
            } else if (call.matches()) {
                calls++;
                String answer = answer(x, call.group(1), call.group(2));
                Check.due(line + " (answered " + answer + ")", true, answer.equals(call.group(3)));
            } else {
                Check.due(line, true, line.equals("DewBaron x = new DewBaron();"));
            }
        }
        Check.due("calls in README.md", true, calls > 10);
    }

    private static String answer(DewBaron x, String name, String told) throws ReflectiveOperationException {
        String[] parts = told.isEmpty() ? new String[0] : told.split(", ");
        Object[] given = new Object[parts.length];
        Class<?>[] types = new Class<?>[parts.length];
        for (int i = 0; i < parts.length; i++) {
            given[i] = Integer.valueOf(parts[i]);
            types[i] = int.class;
        }
        Method method = DewBaron.class.getMethod(name, types);
        return String.valueOf(method.invoke(x, given));
    }

    private static void namesEveryTest(String readme) throws IOException {
        try (DirectoryStream<Path> tests = Files.newDirectoryStream(Path.of("src/test/java"), "*.java")) {
            for (Path test : tests) {
                String name = test.getFileName().toString().replace(".java", "");
                Check.due("README.md names " + name, true, readme.contains("`" + name + "`"));
            }
        }
        Matcher named = Pattern.compile("`(\\w+Test)`").matcher(readme);
        while (named.find()) {
            Path test = Path.of("src/test/java", named.group(1) + ".java");
            Check.due(test + " is there", true, Files.exists(test));
        }
    }
}
