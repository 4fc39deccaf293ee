import java.io.StringWriter;
import java.net.URL;
import java.net.URLClassLoader;
import java.nio.file.Files;
import java.nio.file.Path;
import java.util.ArrayList;
import java.util.List;
import java.util.Set;
import java.util.TreeSet;
import java.util.regex.Matcher;
import java.util.regex.Pattern;
import java.util.stream.Stream;
import javax.tools.JavaCompiler;
import javax.tools.ToolProvider;

/** What README.md says must be so: its example is compiled and run, its lists are held against what is there. */
public final class ReadmeTest {
    private static final Check check = new Check("ReadmeTest");

    public static void main(String[] args) throws Exception {
        Path program = Path.of(System.getProperty("program", "src/main/java/SnakeLadders.java")).toAbsolutePath();
        Path root = program.getParent().resolve("../../..").normalize();
        String readme = Files.readString(root.resolve("README.md"));
        String document = Files.readString(Path.of(System.getProperty("document", "../shared/DOC.md")));
        example(block(readme, "java"));
        text(readme, block(readme, "text").strip());
        calls(readme, document);
        kinds(readme, document);
        tests(readme, root.resolve("src/test/java"));
        check.end();
    }

    private static String block(String readme, String language) {
        Matcher m = Pattern.compile("(?s)```" + language + "\n(.*?)```").matcher(readme);
        check.holds("there is a block of " + language, m.find());
        return m.group(1);
    }

    // ---- the example: a number behind // is what the call answers

    private static void example(String lines) throws Exception {
        List<Long> due = new ArrayList<>();
        List<String> told = new ArrayList<>();
        StringBuilder body = new StringBuilder();
        Pattern row = Pattern.compile("(int \\w+ = )?(game\\.\\w+\\(.*\\));\\s*// (-?[0-9]+): .*");
        for (String line : lines.strip().split("\n")) {
            Matcher m = row.matcher(line);
            if (m.matches()) {
                String name = m.group(1) == null ? "long answer" + told.size() + " = " : m.group(1);
                body.append(name).append(m.group(2)).append("; answers.add((long) ");
                body.append(name.split(" ")[1]).append(");\n");
                told.add(m.group(2));
                due.add(Long.valueOf(m.group(3)));
            } else {
                check.holds("'" + line + "' says no answer", line.startsWith("SnakeLadders game = "));
                body.append(line).append('\n');
            }
        }
        List<Long> answers = run(body.toString());
        check.due("how many rows of the example were run", answers.size(), due.size());
        check.holds("the example has rows", due.size() > 9);
        for (int n = 0; n < Math.min(due.size(), answers.size()); n++) {
            check.due("README: " + told.get(n), answers.get(n), due.get(n));
        }
    }

    @SuppressWarnings("unchecked")
    private static List<Long> run(String body) throws Exception {
        Path out = Files.createTempDirectory("readme");
        try {
            Path mine = out.resolve("Mine.java");
            Files.writeString(mine, "import java.util.*;\npublic class Mine {\npublic static List<Long> answers() {\n"
                + "List<Long> answers = new ArrayList<>();\n" + body + "return answers;\n}\n}\n");
            JavaCompiler compiler = ToolProvider.getSystemJavaCompiler();
            StringWriter said = new StringWriter();
            boolean compiled = compiler.getTask(said, null, null, List.of("-d", out.toString(), "-cp",
                System.getProperty("java.class.path")), null,
                compiler.getStandardFileManager(null, null, null).getJavaFileObjects(mine)).call();
            check.holds("the example is compiled " + said, compiled);
            if (!compiled) {
                return List.of();
            }
            try (URLClassLoader loader = new URLClassLoader(new URL[] {out.toUri().toURL()})) {
                return (List<Long>) loader.loadClass("Mine").getMethod("answers").invoke(null);
            }
        } finally {
            Files.deleteIfExists(out.resolve("Mine.java"));
            Files.deleteIfExists(out.resolve("Mine.class"));
            Files.deleteIfExists(out);
        }
    }

    // ---- the text

    private static void text(String readme, String text) {
        SnakeLadders game = Edges.typed(new SnakeLadders(), text);
        check.due("README: how many items", game.read(), number(readme, "This one has ([0-9]+) items"));
        Matcher m = find(readme, "with `(throw [0-9 ]+;)` in it\\s+that is (-[0-9]+), as the ([0-9]) is at place ([0-9]+)");
        String spoilt = text.replaceFirst("throw [0-9 ]+;", m.group(1));
        long state = game.digest();
        Edges.typed(game, spoilt);
        check.due("README: read() with a fault", game.read(), Long.parseLong(m.group(2)));
        check.due("README: the game stays", game.digest(), state);
        check.due("README: the place", spoilt.indexOf(m.group(3)), Long.parseLong(m.group(4)));
        check.due("README: how many bytes at most", number(readme, "\\(([0-9]+) at most\\), then `read\\(\\)`"), 150);
    }

    private static long number(String readme, String words) {
        return Long.parseLong(find(readme, words).group(1));
    }

    private static Matcher find(String readme, String words) {
        Matcher m = Pattern.compile(words).matcher(readme);
        check.holds("README says " + words, m.find());
        return m;
    }

    // ---- the lists

    private static void calls(String readme, String document) {
        Set<String> due = new TreeSet<>();
        Matcher face = Pattern.compile("public (?:int|long) (\\w+)\\((.*?)\\);").matcher(document);
        while (face.find()) {
            due.add(face.group(1) + "(" + face.group(2).replace("int ", "") + ")");
        }
        Set<String> got = new TreeSet<>();
        Matcher row = Pattern.compile("(?m)^\\| (`\\w+\\(.*?\\)`(?:, `\\w+\\(.*?\\)`)*) \\|").matcher(readme);
        while (row.find()) {
            for (String call : row.group(1).split("`, `")) {
                got.add(call.replace("`", ""));
            }
        }
        check.due("calls of the document's face", due.size(), 35);
        check.holds("README has the calls " + due + ", not " + got, got.equals(due));
    }

    private static void kinds(String readme, String document) {
        List<String> got = numbered(readme.substring(readme.indexOf("Players are of the kinds"), readme.indexOf("Players, links, notes")));
        List<String> due = numbered(document.substring(document.indexOf("KINDS of PLAYERS"), document.indexOf("A THROW r")));
        check.due("kinds of the document", due.size(), 12);
        check.holds("README has the kinds " + due + ", not " + got, got.equals(due));
    }

    private static List<String> numbered(String words) {
        return Pattern.compile("\\b[0-5] [A-Z]+\\b(?= ?[:(,;.]|$)").matcher(words).results().map(m -> m.group().strip()).toList();
    }

    private static void tests(String readme, Path tests) throws Exception {
        Set<String> due = new TreeSet<>();
        try (Stream<Path> files = Files.list(tests)) {
            files.map(file -> file.getFileName().toString()).filter(name -> name.endsWith("Test.java"))
                .forEach(name -> due.add(name.replace(".java", "")));
        }
        Set<String> got = new TreeSet<>();
        Matcher row = Pattern.compile("(?m)^\\| `(\\w+Test)` \\|").matcher(readme);
        while (row.find()) {
            got.add(row.group(1));
        }
        check.holds("README has the tests " + due + ", not " + got, got.equals(due));
    }
}
