import java.io.IOException;
import java.lang.reflect.Method;
import java.nio.charset.StandardCharsets;
import java.nio.file.DirectoryStream;
import java.nio.file.Files;
import java.nio.file.Path;
import java.util.regex.Matcher;
import java.util.regex.Pattern;

/** What README.md shows: its text is read, its calls answer as it says, and it names each call. */
public final class ReadmeTest {
    private static final Pattern TEXT = Pattern.compile("```text\n(.*?)```", Pattern.DOTALL);
    private static final Pattern CALL = Pattern.compile("(?m)^x\\.(\\w+)\\((.*?)\\) +// (-?\\d+|true|false)\\b");

    public static void main(String[] args) throws Exception {
        String page = Files.readString(Path.of("README.md"), StandardCharsets.US_ASCII);
        Matcher text = TEXT.matcher(page);
        Check.due("README.md has a text", text.find(), true);
        WebCourt x = Check.fine(text.group(1), 3);
        Matcher call = CALL.matcher(page);
        int calls = 0;
        while (call.find()) {
            calls++;
            answer(x, call.group(1), call.group(2), call.group(3));
        }
        Check.due("README.md has calls", calls > 0, true);
        for (Method method : Check.face()) {
            Check.due("README.md names " + method.getName(), page.contains("`" + method.getName() + "`"), true);
        }
        namesTests(page);
        Check.finish();
    }

    private static void namesTests(String page) throws IOException {
        try (DirectoryStream<Path> files = Files.newDirectoryStream(Path.of("src/test/java"), "*Test.java")) {
            for (Path file : files) {
                String name = file.getFileName().toString().replace(".java", "");
                Check.due("README.md names " + name, page.contains("`" + name + "`"), true);
            }
        }
    }

    private static void answer(WebCourt x, String name, String given, String due) throws Exception {
        String[] words = given.isEmpty() ? new String[0] : given.split(", ");
        Object[] arguments = new Object[words.length];
        for (int i = 0; i < words.length; i++) {
            boolean isNumber = !words[i].equals("true") && !words[i].equals("false");
            arguments[i] = isNumber ? (Object) Integer.valueOf(words[i]) : (Object) Boolean.valueOf(words[i]);
        }
        for (Method method : Check.face()) {
            if (method.getName().equals(name)) {
                String got = method.invoke(x, arguments).toString();
                Check.due(name + "(" + given + ") answers " + got + ", README.md says " + due, got.equals(due), true);
            }
        }
    }
}
