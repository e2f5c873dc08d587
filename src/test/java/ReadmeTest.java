import java.io.IOException;
import java.net.URL;
import java.net.URLClassLoader;
import java.nio.file.Files;
import java.nio.file.Path;
import java.util.List;
import java.util.regex.Matcher;
import java.util.regex.Pattern;
import javax.tools.ToolProvider;

/** The example of README.md: each of its calls is compiled, and answers what stands behind it. */
public final class ReadmeTest {
    private static final Pattern CALL = Pattern.compile(" {4}(book\\.\\w+\\(.*\\));\\s+// answers (-?\\w+).*");

    public static void main(String[] args) throws IOException, ReflectiveOperationException {
        Check check = new Check("ReadmeTest");
        List<String> lines = Files.readAllLines(Path.of("README.md"));
        StringBuilder code = new StringBuilder("public final class Example { public static String[] answers() {\n");
        check.is("an object is made", lines.contains("    SealBook book = new SealBook();"));
        code.append("SealBook book = new SealBook(); return new String[] {\n");
        List<Matcher> calls = lines.stream().map(CALL::matcher).filter(Matcher::matches).toList();
        long bookLines = lines.stream().filter(line -> line.startsWith("    book.")).count();
        check.due("lines with a call and an answer", calls.size(), bookLines);
        for (Matcher call : calls) {
            code.append("String.valueOf(").append(call.group(1)).append("),\n");
        }
        String[] answers = run(code.append("}; } }\n").toString());
        for (int k = 0; k < answers.length; k++) {
            String due = calls.get(k).group(2);
            check.is(calls.get(k).group(1) + " answered " + answers[k] + ", due is " + due, answers[k].equals(due));
        }
        check.end();
    }

    private static String[] run(String code) throws IOException, ReflectiveOperationException {
        Path folder = Files.createTempDirectory("readme");
        Path source = folder.resolve("Example.java");
        Path compiled = folder.resolve("Example.class");
        try {
            Files.writeString(source, code);
            ToolProvider.getSystemJavaCompiler().run(null, null, null, "-proc:none", "-cp",
                    System.getProperty("java.class.path"), "-d", folder.toString(), source.toString());
            try (URLClassLoader loader = new URLClassLoader(new URL[] {folder.toUri().toURL()})) {
                return (String[]) loader.loadClass("Example").getMethod("answers").invoke(null);
            }
        } finally {
            Files.deleteIfExists(source);
            Files.deleteIfExists(compiled);
            Files.deleteIfExists(folder);
        }
    }
}
