import java.io.File;
import java.io.IOException;
import java.lang.reflect.Method;
import java.lang.reflect.Modifier;
import java.nio.file.Files;
import java.nio.file.Path;
import java.util.ArrayList;
import java.util.Comparator;
import java.util.List;
import java.util.regex.Matcher;
import java.util.regex.Pattern;
import java.util.stream.Stream;

/** README.md goes as it says: its calls answer what stands behind them, its commands run, all it names is there. */
public final class ReadmeTest {
    private static final Pattern BLOCK = Pattern.compile("(?s)```(java|sh)\n(.*?)```");
    private static final Pattern ANSWERED = Pattern.compile("(links\\.\\w+\\(.*\\)); // (-?\\d+|true|false)\\b.*");
    private static final Pattern NAMED = Pattern.compile("`([^`\n]+)`");

    private static int wrong = 0;

    private ReadmeTest() {
    }

    public static void main(String[] args) throws IOException, InterruptedException {
        String readme = Files.readString(Path.of("README.md"));
        Path aside = Files.createTempDirectory("readme");
        try {
            calls(readme, aside);
            commands(readme, aside);
        } finally {
            remove(aside);
        }
        names(readme);
        System.out.println(wrong == 0 ? "README.md goes as it says" : wrong + " things are not as README.md says");
        if (wrong != 0) {
            System.exit(1);
        }
    }

    private static void must(boolean is, String what) {
        if (!is) {
            wrong++;
            System.out.println("not so: " + what);
        }
    }

    private static List<String> blocks(String readme, String language) {
        List<String> found = new ArrayList<>();
        Matcher m = BLOCK.matcher(readme);
        while (m.find()) {
            if (m.group(1).equals(language)) {
                found.add(m.group(2));
            }
        }
        return found;
    }

    /** All that stands in the blocks becomes one program, in which each answer is held against the one behind the call. */
    private static void calls(String readme, Path aside) throws IOException, InterruptedException {
        StringBuilder functions = new StringBuilder();
        StringBuilder body = new StringBuilder();
        int answers = 0;
        for (String block : blocks(readme, "java")) {
            if (block.startsWith("static ")) {
                functions.append(block);
                continue;
            }
            for (String line : block.split("\n")) {
                Matcher m = ANSWERED.matcher(line);
                if (m.matches()) {
                    answers++;
                    String call = m.group(1).replace("\\", "\\\\").replace("\"", "\\\"");
                    body.append("due(\"").append(call).append("\", ").append(m.group(1)).append(", ").append(m.group(2)).append(");\n");
                } else {
                    must(!line.startsWith("links."), "an answer stands behind " + line);
                    body.append(line).append('\n');
                }
            }
        }
        must(answers > 0, "README.md shows calls");
        Path program = aside.resolve("Shown.java");
        Files.writeString(program, "final class Shown {\nstatic int wrong = 0;\n"
                + "static void due(String call, Object got, Object want) {\n"
                + "if (!got.toString().equals(want.toString())) {\nwrong++;\n"
                + "System.out.println(call + \" answered \" + got + \", README.md says \" + want);\n}\n}\n"
                + functions + "public static void main(String[] args) {\n" + body + "System.exit(wrong == 0 ? 0 : 1);\n}\n}\n");
        String known = System.getProperty("java.class.path");
        boolean made = runs(aside, "javac", "-cp", known, "-d", aside.toString(), program.toString());
        must(made && runs(aside, "java", "-cp", known + File.pathSeparator + aside, "Shown"), "the calls answer as README.md says");
    }

    private static void commands(String readme, Path aside) throws IOException, InterruptedException {
        List<String> blocks = blocks(readme, "sh");
        must(!blocks.isEmpty(), "README.md shows commands");
        for (String block : blocks) {
            must(runs(aside, "sh", "-e", "-c", block), "these commands run:\n" + block);
        }
    }

    private static boolean runs(Path aside, String... command) throws IOException, InterruptedException {
        ProcessBuilder b = new ProcessBuilder(command).redirectErrorStream(true);
        b.environment().put("TMPDIR", aside.toString());
        Process p = b.start();
        String told = new String(p.getInputStream().readAllBytes());
        boolean is = p.waitFor() == 0;
        if (!is) {
            System.out.print(told);
        }
        return is;
    }

    /** Files and directories that are named are there, and every call is named. */
    private static void names(String readme) throws IOException {
        List<String> names = new ArrayList<>();
        Matcher m = NAMED.matcher(BLOCK.matcher(readme).replaceAll(""));
        while (m.find()) {
            names.add(m.group(1));
            if (m.group(1).contains("/")) {
                must(Files.exists(Path.of(m.group(1))), m.group(1) + " is there");
            }
        }
        for (Method method : WordLinks.class.getDeclaredMethods()) {
            if (Modifier.isPublic(method.getModifiers())) {
                must(names.contains(method.getName()), "README.md names " + method.getName());
            }
        }
        try (Stream<Path> tests = Files.list(Path.of("src/test/java"))) {
            for (Path test : (Iterable<Path>) tests::iterator) {
                String name = test.getFileName().toString().replace(".java", "");
                must(names.contains(name), "README.md names " + name);
            }
        }
    }

    private static void remove(Path aside) throws IOException {
        try (Stream<Path> all = Files.walk(aside)) {
            for (Path path : all.sorted(Comparator.reverseOrder()).toList()) {
                Files.delete(path);
            }
        }
    }
}
