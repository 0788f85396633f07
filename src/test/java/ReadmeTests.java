import java.io.IOException;
import java.lang.reflect.Method;
import java.lang.reflect.Modifier;
import java.net.URL;
import java.net.URLClassLoader;
import java.nio.file.Files;
import java.nio.file.Path;
import java.util.ArrayList;
import java.util.List;
import java.util.regex.Matcher;
import java.util.regex.Pattern;
import javax.tools.ToolProvider;

/** README.md's example is compiled and run, each line's answer held against the one that stands behind it. */
public final class ReadmeTests {
    private static final Pattern BLOCK = Pattern.compile("```java\n(.*?)```", Pattern.DOTALL);
    private static final Pattern ANSWERED = Pattern.compile("(?:int (\\w+) = )?(.*);\\s*// (-?\\d+|true|false)\\b.*");
    private static final Checks t = new Checks();

    public static void main(String[] args) throws IOException, ReflectiveOperationException {
        String page = Files.readString(Path.of("README.md"));
        tellsEachCall(page);
        List<String> calls = new ArrayList<>();
        List<String> due = new ArrayList<>();
        String program = program(page, calls, due);
        String[] got = run(program).split("\n");
        t.due("lines with an answer", got.length, calls.size());
        for (int i = 0; i < Math.min(got.length, calls.size()); i++) t.due(calls.get(i), got[i], due.get(i));
        t.close("ReadmeTests");
    }

    private static void tellsEachCall(String page) {
        for (Method m : LetterHeirs.class.getDeclaredMethods()) {
            if (!Modifier.isPublic(m.getModifiers())) continue;
            boolean told = Pattern.compile("\\| `" + m.getName() + "\\(([^)]*)\\)`").matcher(page).find();
            t.due("README.md tells " + m.getName(), told, true);
        }
    }

    /** A block that begins with a comment is a method, any other one lines of the example. */
    private static String program(String page, List<String> calls, List<String> due) {
        StringBuilder members = new StringBuilder();
        StringBuilder lines = new StringBuilder();
        Matcher block = BLOCK.matcher(page);
        while (block.find()) {
            if (block.group(1).startsWith("/**")) {
                members.append(block.group(1));
                continue;
            }
            for (String line : block.group(1).split("\n")) lines.append(answering(line, calls, due)).append('\n');
        }
        return "public final class Example {\n" + members
            + "public static String answers() {\nStringBuilder all = new StringBuilder();\n" + lines
            + "return all.toString();\n}\n}\n";
    }

    private static String answering(String line, List<String> calls, List<String> due) {
        Matcher m = ANSWERED.matcher(line);
        if (!m.matches()) return line;
        calls.add(m.group(2));
        due.add(m.group(3));
        if (m.group(1) == null) return "all.append(" + m.group(2) + ").append('\\n');";
        return "int " + m.group(1) + " = " + m.group(2) + ";\nall.append(" + m.group(1) + ").append('\\n');";
    }

    private static String run(String program) throws IOException, ReflectiveOperationException {
        Path folder = Files.createTempDirectory("readme");
        Path source = folder.resolve("Example.java");
        Path compiled = folder.resolve("Example.class");
        try {
            Files.writeString(source, program);
            String path = System.getProperty("java.class.path");
            int ended = ToolProvider.getSystemJavaCompiler().run(null, null, null, "-cp", path, "-d", folder.toString(), source.toString());
            t.due("the example compiles", ended, 0);
            if (ended != 0) return "";
            try (URLClassLoader loader = new URLClassLoader(new URL[] {folder.toUri().toURL()})) {
                return (String) loader.loadClass("Example").getMethod("answers").invoke(null);
            }
        } finally {
            Files.deleteIfExists(source);
            Files.deleteIfExists(compiled);
            Files.deleteIfExists(folder);
        }
    }
}
