import java.nio.charset.StandardCharsets;
import java.nio.file.Files;
import java.nio.file.Path;
import java.util.List;

/** LANGUAGE.md's rules that can be seen in the text of the program. */
public final class SourceTest {
    private static final String[] BANNED = {"throw", "throws", "try", "catch", "synchronized", "assert", "import",
        "package", "protected", "instanceof", "Object", "Exception", "null", "double", "float", "System", "Thread",
        "Exact", "hashCode", "toString", "->", "::", "@"};

    public static void main(String[] args) throws Exception {
        List<String> lines = Files.readAllLines(Path.of("src/main/java/WebCourt.java"), StandardCharsets.US_ASCII);
        int opened = 0;
        for (int i = 0; i < lines.size(); i++) {
            String line = lines.get(i);
            String code = line.replaceFirst("//.*", "").replaceFirst("/\\*\\*.*\\*/", "");
            for (String banned : BANNED) {
                boolean word = Character.isLetter(banned.charAt(0));
                boolean found = word ? code.matches(".*\\b" + banned + "\\b.*") : code.contains(banned);
                Check.due("line " + (i + 1) + " has " + banned, found, false);
            }
            Check.due("line " + (i + 1) + " joins a text by +", code.matches(".*\"\\s*\\+.*|.*\\+\\s*\".*"), false);
            Check.due("line " + (i + 1) + " is long", line.length() > 120, false);
            // A method begins four or eight columns in, and its last line closes there.
            if (code.matches("( {4}| {8})[a-zA-Z].*\\) \\{")) {
                opened = i;
            } else if (code.matches("( {4}| {8})\\}") && opened > 0) {
                Check.due("the method of line " + (opened + 1) + " has more than sixty lines", i - opened > 60, false);
            }
        }
        Check.finish();
    }
}
