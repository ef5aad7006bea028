import java.io.File;
import java.io.StringWriter;
import java.net.URL;
import java.net.URLClassLoader;
import java.nio.file.Files;
import java.nio.file.Path;
import java.util.ArrayList;
import java.util.List;
import java.util.regex.Matcher;
import java.util.regex.Pattern;
import java.util.stream.Stream;
import javax.tools.JavaCompiler;
import javax.tools.ToolProvider;

/**
 * README.md: its pieces of Java, put together to one program, compile and answer what they tell behind "//"; every promise's
 * subject has a piece; the tests that it lists are those that there are.
 */
public final class ReadmeTest {
    private static final Pattern PIECE = Pattern.compile("(?s)```java\n(.*?)```");
    // A call, or a number that is given the answer of one; behind it the answer, as a number or a name.
    private static final Pattern LINE = Pattern.compile("(?:int (\\w+) = )?(x\\.\\w+\\(.*\\)); *// (-?\\d+|BAD|FULL|NONE|STATE)(?::? .*)?");
    private static final int FEWEST_ANSWERS = 50;
    private static int wrong = 0;
    private static int answers = 0;

    private static void must(boolean holds, String what) {
        if (!holds) {
            wrong++;
            System.out.println("not so: " + what);
        }
    }

    /** Called by the program that is put together. */
    public static void answered(String call, int got, int told) {
        answers++;
        must(got == told, call + " answers " + told + ", as README.md tells; it answers " + got);
    }

    private static String statement(String line) {
        Matcher m = LINE.matcher(line.trim());
        if (!m.matches()) {
            must(!line.contains("//"), "an answer can be read from: " + line);
            return line + "\n";
        }
        String told = Character.isLetter(m.group(3).charAt(0)) ? "RoundAndUp." + m.group(3) : m.group(3);
        String given = m.group(1) == null ? "" : "int " + m.group(1) + " = ";
        String got = m.group(1) == null ? m.group(2) : m.group(1);
        String ahead = m.group(1) == null ? "" : given + m.group(2) + ";\n";
        return ahead + "ReadmeTest.answered(\"" + m.group(2) + "\", " + got + ", " + told + ");\n";
    }

    private static String program(String readme) {
        StringBuilder members = new StringBuilder();
        StringBuilder body = new StringBuilder();
        Matcher m = PIECE.matcher(readme);
        while (m.find()) {
            String piece = m.group(1);
            if (piece.startsWith("static ")) {
                members.append(piece);
            } else {
                piece.lines().forEach(line -> body.append(statement(line)));
            }
        }
        return "public final class Example {\n" + members + "public static void main(String[] args) {\n" + body + "}\n}\n";
    }

    private static void runProgram(String text) throws Exception {
        Path dir = Files.createTempDirectory("readme");
        Path file = dir.resolve("Example.java");
        try {
            Files.writeString(file, text);
            JavaCompiler compiler = ToolProvider.getSystemJavaCompiler();
            StringWriter told = new StringWriter();
            boolean isRight = compiler.getTask(told, null, null, List.of("-d", dir.toString(), "-cp", System.getProperty("java.class.path")), null,
                compiler.getStandardFileManager(null, null, null).getJavaFileObjects(file)).call();
            must(isRight, "the pieces of README.md compile:\n" + told + text);
            if (isRight) {
                try (URLClassLoader loader = new URLClassLoader(new URL[] {dir.toUri().toURL()}, ReadmeTest.class.getClassLoader())) {
                    loader.loadClass("Example").getMethod("main", String[].class).invoke(null, (Object) new String[0]);
                }
            }
        } finally {
            for (File f : dir.toFile().listFiles()) {
                f.delete();
            }
            Files.delete(dir);
        }
    }

    private static void lookAtTests(String readme) throws Exception {
        List<String> there = new ArrayList<>();
        try (Stream<Path> files = Files.list(Path.of("src/test/java"))) {
            files.map(f -> f.getFileName().toString()).filter(f -> f.endsWith("Test.java")).forEach(f -> there.add(f.replace(".java", "")));
        }
        List<String> listed = new ArrayList<>();
        Matcher m = Pattern.compile("(?m)^- `(\\w+Test)\\b").matcher(readme);
        while (m.find()) {
            listed.add(m.group(1));
        }
        there.sort(null);
        listed.sort(null);
        must(there.equals(listed), "README.md lists the tests that there are: " + there + ", not " + listed);
        must(readme.contains("\n    .ci/run\n") && Files.isExecutable(Path.of(".ci/run")), "README.md tells of .ci/run, which can be run");
    }

    public static void main(String[] args) throws Exception {
        String readme = Files.readString(Path.of("README.md"));
        runProgram(program(readme));
        must(answers >= FEWEST_ANSWERS, "some " + FEWEST_ANSWERS + " answers are told, and looked at: " + answers);
        lookAtTests(readme);
        System.out.println(wrong == 0 ? answers + " answers of README.md hold" : wrong + " things are not as README.md tells");
        if (wrong != 0) {
            System.exit(1);
        }
    }
}
