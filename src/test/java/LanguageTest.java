import java.io.IOException;
import java.nio.charset.StandardCharsets;
import java.nio.file.Files;
import java.nio.file.Path;
import java.util.regex.Matcher;
import java.util.regex.Pattern;

/** What of ../shared/LANGUAGE.md can be told from the words of the program alone. */
public final class LanguageTest {
    private static final Path PROGRAM = Path.of("src/main/java/StretchedCarpet.java");
    private static final String[] RULED_OUT = {
        "\\b(throw|throws|try|catch|finally|synchronized|assert|volatile|native|transient)\\b",
        "\\b(import|package|extends|System|Thread|Object|Exception|NaN|yield)\\b",
        "->", "::", "Exact\\s*\\(", "\\b(equals|hashCode|toString)\\b", "\\bprotected\\b", "\\bfloat\\b|\\bdouble\\b",
        "while\\s*\\(\\s*true", "\"\\s*\\+|\\+\\s*\"", "\\{\\s*\\{",
    };
    private static final int MOST_CLASSES = 12;
    private static final int MOST_LINES_OF_A_METHOD = 60;

    private static int wrong = 0;

    private static void say(String what) {
        wrong++;
        System.out.println(what);
    }

    private static String bare(String source) {
        return source.replaceAll("(?s)/\\*.*?\\*/", "").replaceAll("//[^\n]*", "")
            .replaceAll("\"[^\"\n]*\"", "\"\"").replaceAll("'[^'\n]*'", "' '");
    }

    private static void tellRuledOut(String bare) {
        for (String out : RULED_OUT) {
            Matcher found = Pattern.compile(out).matcher(bare);
            if (found.find()) {
                say("ruled out: " + found.group());
            }
        }
    }

    private static void tellLongMethods(String bare) {
        int begun = -1;
        String[] lines = bare.split("\n");
        for (int i = 0; i < lines.length; i++) {
            boolean member = lines[i].matches(" {4}( {4})?[a-z].*\\) \\{");
            if (member) {
                begun = i;
            }
            boolean end = lines[i].matches(" {4}( {4})?\\}");
            if (end && begun >= 0 && i - begun > MOST_LINES_OF_A_METHOD) {
                say("a long method at line " + (begun + 1));
            }
        }
    }

    public static void main(String[] args) throws IOException {
        String source = Files.readString(PROGRAM, StandardCharsets.US_ASCII);
        String bare = bare(source);
        tellRuledOut(bare);
        tellLongMethods(bare);
        int classes = bare.split("\\b(class|record|enum|interface) ", -1).length - 1;
        if (classes > MOST_CLASSES) {
            say(classes + " classes");
        }
        System.out.println(wrong == 0 ? "all answers are as due" : wrong + " words are not as due");
        if (wrong != 0) {
            System.exit(1);
        }
    }
}
