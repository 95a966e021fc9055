import java.io.IOException;
import java.nio.file.Files;
import java.nio.file.Path;
import java.util.regex.Matcher;
import java.util.regex.Pattern;

/** Looks through the program's text for what LANGUAGE.md rules out and can be seen by words. */
public final class Language {
    private static final String FACE = "feed|row|box|size|piece|joint|closes|uses|sign|gap|nearer|table|leg|off"
            + "|touches|lies|rings|ring|most|opens|nearest|turn|photo|image|on|count";
    private static int wrong = 0;

    public static void main(String[] args) throws IOException {
        String text = Files.readString(Path.of("src/main/java/TrackBox.java"));
        String code = text.replaceAll("(?s)/\\*.*?\\*/", "").replaceAll("//[^\n]*", "");
        none(code, "\\b(throw|throws|try|catch|finally|synchronized|assert|package|var|while|double|float)\\b");
        none(code, "->|::|\"|System|Exact|MAX_VALUE|MIN_VALUE|\\bprotected\\b");
        none(code, "import (?!java\\.util\\.Arrays;)");
        none(code, "[^\\x00-\\x7f]");
        none(code, "(?m)^ {4}(?!public|private|\\}|@)\\S.*\\{$");
        none(code, "(?m)^ {4}(private static|static) (?!final|int |long |boolean |void )");
        none(code, "(?m)^ {8,}(private )?(static )?(int|long|boolean|void) (" + FACE + ")\\(");
        none(code, "(?m)^ {4}private (static )?(int|long|boolean|void) (" + FACE + ")\\(");
        methodsAreShort(code);
        if (wrong != 0) {
            System.exit(1);
        }
        System.out.println("the language holds");
    }

    private static void none(String code, String pattern) {
        Matcher found = Pattern.compile(pattern).matcher(code);
        while (found.find()) {
            wrong++;
            System.out.println("not of the language: " + found.group());
        }
    }

    private static void methodsAreShort(String code) {
        String method = "(?ms)^( {4}| {8})(?! |private static final class)(?:\\w|\\[\\]| )+\\(([^)]*)\\) \\{\n(.*?)^\\1\\}";
        Matcher found = Pattern.compile(method).matcher(code);
        int methods = 0;
        while (found.find()) {
            methods++;
            int lines = found.group(3).split("\n").length;
            int parameters = found.group(2).split(",").length;
            if (lines > 60 || parameters > 7) {
                wrong++;
                System.out.println("too long: " + found.group().split("\n")[0]);
            }
        }
        if (methods < 30) {
            wrong++;
            System.out.println("only " + methods + " methods seen");
        }
    }
}
