import java.io.IOException;
import java.nio.charset.StandardCharsets;
import java.nio.file.Files;
import java.nio.file.Path;
import java.util.regex.Matcher;
import java.util.regex.Pattern;

/** The rules of LANGUAGE.md that the source shows by its words; the path of the source is the first argument. */
public final class LanguageTest {
    private static final String[] FORBIDDEN = {"throw", "throws", "try", "catch", "finally", "synchronized", "assert",
        "import", "package", "native", "volatile", "protected", "instanceof", "equals", "hashCode", "toString",
        "extends", "implements", "System", "Random", "Thread", "Object"};
    private static final int MOST_LINES = 60;
    private static final int MOST_ARGUMENTS = 7;

    private LanguageTest() {
    }

    public static void main(String[] args) throws IOException {
        String path = args.length > 0 ? args[0] : "src/main/java/WordRuns.java";
        byte[] bytes = Files.readAllBytes(Path.of(path));
        for (byte each : bytes) {
            if (each != '\n' && (each < 32 || each > 126)) {
                Check.holds("a byte " + each + " in the source", false);
            }
        }
        String source = withoutComments(new String(bytes, StandardCharsets.US_ASCII));
        checkWords(source);
        checkStatics(source);
        checkMethods(source);
        Check.close("LanguageTest");
    }

    private static String withoutComments(String source) {
        return source.replaceAll("(?s)/\\*.*?\\*/", "").replaceAll("//[^\n]*", "");
    }

    private static void checkWords(String source) {
        for (String word : FORBIDDEN) {
            Check.holds("the word " + word, !Pattern.compile("\\b" + word + "\\b").matcher(source).find());
        }
        for (String sign : new String[] {"->", "::", "\"", "@", "Exact("}) {
            Check.holds("the sign " + sign, !source.contains(sign));
        }
        Matcher library = Pattern.compile("\\b(Math|Integer|Long|Arrays)\\.(\\w+)").matcher(source);
        while (library.find()) {
            boolean allowed = library.group().matches("Math\\.(min|max)|Integer\\.(compare|bitCount)");
            Check.holds(library.group() + " is on the list", allowed);
        }
    }

    private static void checkStatics(String source) {
        Matcher statics = Pattern.compile("(?m)^.*\\bstatic\\b.*$").matcher(source);
        while (statics.find()) {
            Check.holds(statics.group().trim() + " is final", statics.group().contains("static final"));
        }
        Check.due("endless loops", source.split("while \\(true\\)|for \\(;;\\)", -1).length, 1);
    }

    private static void checkMethods(String source) {
        String[] lines = source.split("\n");
        int begin = -1;
        int methods = 0;
        for (int at = 0; at < lines.length; at++) {
            boolean head = lines[at].matches("( {4}| {8})(public |private )?[\\w\\[\\]]+ ?\\w*\\([^;]*\\) \\{");
            if (head) {
                begin = at;
                methods++;
                long commas = lines[at].chars().filter(sign -> sign == ',').count();
                Check.holds(lines[at].trim() + " has few arguments", commas < MOST_ARGUMENTS);
            }
            if (begin >= 0 && lines[at].matches("( {4}| {8})\\}")) {
                Check.holds(lines[begin].trim() + " is short", at - begin < MOST_LINES);
                begin = -1;
            }
        }
        Check.holds("the methods were found: " + methods, methods > 100);
    }
}
