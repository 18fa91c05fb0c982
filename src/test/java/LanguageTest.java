import java.nio.file.Files;
import java.nio.file.Path;
import java.util.regex.Matcher;
import java.util.regex.Pattern;

/** What shared/LANGUAGE.md rules out and a look at the program's words can find. */
public final class LanguageTest {
    private static final String[] RULED_OUT = {
        "\\b(throw|throws|try|catch|finally|synchronized|assert|instanceof|native|volatile|transient)\\b",
        "->", "::", "\\bpackage\\b", "\\b(protected|var|record)\\b", "Exact\\b", "\\b(equals|hashCode|toString)\\b",
        "\\b(System\\.(?!arraycopy)\\w+|Thread|Random|Runtime|Object|Class|Optional|Map|Set)\\b",
        "Integer\\.(?!bitCount)\\w+", "Long\\.(?!bitCount)\\w+", "Math\\.(?!abs|max|min)\\w+",
        "Arrays\\.(?!fill|copyOf|copyOfRange)\\w+", "\"\\s*\\+|\\+\\s*\"", "\\[\\]\\[\\]\\[\\]",
        "while \\(true\\)|for \\(;;\\)", "\\bpublic static (?!final int NONE)",
    };

    private static int wrong = 0;

    public static void main(String[] args) throws Exception {
        String source = Files.readString(Path.of("src/main/java/WordLinks.java"));
        String program = source.replaceAll("(?s)/\\*.*?\\*/", "").replaceAll("//[^\n]*", "");
        for (String word : RULED_OUT) {
            Matcher m = Pattern.compile(word).matcher(program);
            while (m.find()) {
                wrong++;
                System.out.println("ruled out: " + m.group());
            }
        }
        Matcher imports = Pattern.compile("import ([^;]+);").matcher(program);
        while (imports.find()) {
            if (!imports.group(1).equals("java.util.Arrays")) {
                wrong++;
                System.out.println("import of " + imports.group(1));
            }
        }
        methodLengths(program);
        System.out.println(wrong == 0 ? "the language is kept to" : wrong + " things are ruled out");
        if (wrong != 0) {
            System.exit(1);
        }
    }

    private static void methodLengths(String program) {
        String[] lines = program.split("\n");
        int start = -1;
        for (int k = 0; k < lines.length; k++) {
            if (lines[k].matches(" {4}( {4})?[^ }].*\\) \\{")) {
                start = k;
            }
            if (start >= 0 && lines[k].matches(" {4}( {4})?\\}") && lines[k].indexOf('}') == lines[start].length() - lines[start].stripLeading().length()) {
                if (k - start > 60) {
                    wrong++;
                    System.out.println("too long: " + lines[start].strip());
                }
                start = -1;
            }
        }
    }
}
