import java.io.IOException;
import java.lang.reflect.Method;
import java.net.URL;
import java.net.URLClassLoader;
import java.nio.file.Files;
import java.nio.file.Path;
import java.util.ArrayList;
import java.util.List;
import java.util.regex.Matcher;
import java.util.regex.Pattern;
import javax.tools.ToolProvider;

/** The example of README.md compiles, and each of its lines answers what stands behind it. */
public final class ReadmeTest {
    private static final Pattern EXAMPLE = Pattern.compile("(?s)```java\n(.*?)```");
    private static final Pattern CALL = Pattern.compile("(int (\\w+) = )?(x\\.\\w+\\(.*\\));\\s+// (throws \\w+|\\S+)");

    private static int wrong;

    private ReadmeTest() {
    }

    public static void main(String[] args) throws Exception {
        Path root = Path.of(args[0]).toAbsolutePath().getParent().getParent().getParent().getParent();
        Matcher example = EXAMPLE.matcher(Files.readString(root.resolve("README.md")));
        if (!example.find()) {
            System.out.println("README.md has no example");
            System.exit(1);
        }
        List<String> calls = new ArrayList<>();
        String source = programOf(example.group(1), calls);
        List<?> answers = run(source);
        if (answers.size() != calls.size()) {
            System.out.println("the example of README.md does not compile, or ends ahead of its last line");
            System.exit(1);
        }
        for (int i = 0; i < calls.size(); i++) {
            String[] call = calls.get(i).split(" -> ");
            if (!call[1].equals(answers.get(i))) {
                wrong++;
                System.out.println(call[0] + " answers " + answers.get(i) + ", and README.md says " + call[1]);
            }
        }
        everyCallIsNamed(Files.readString(root.resolve("README.md")));
        System.out.println(wrong == 0 ? calls.size() + " lines of the example are as due" : wrong + " lines are wrong");
        if (wrong != 0) {
            System.exit(1);
        }
    }

    /** A line that is neither a call with its answer, nor empty, nor a remark, nor the first one does not compile. */
    private static String programOf(String example, List<String> calls) {
        StringBuilder body = new StringBuilder();
        for (String line : example.split("\n")) {
            Matcher call = CALL.matcher(line);
            if (!call.matches()) {
                body.append(line).append('\n');
                continue;
            }
            calls.add(call.group(3) + " -> " + call.group(4));
            if (call.group(1) != null) {
                body.append(line).append("\nanswers.add(String.valueOf(").append(call.group(2)).append("));\n");
            } else {
                body.append("try { answers.add(String.valueOf(").append(call.group(3)).append(")); }\n")
                        .append("catch (RuntimeException e) { answers.add(\"throws \" + e.getClass().getSimpleName()); }\n");
            }
        }
        return "public final class ReadmeExample { public static java.util.List<String> run() {\n"
                + "java.util.List<String> answers = new java.util.ArrayList<>();\n" + body + "return answers; } }\n";
    }

    /** Empty, if it does not compile. */
    private static List<?> run(String source) throws Exception {
        Path folder = Files.createTempDirectory("readme");
        Path file = folder.resolve("ReadmeExample.java");
        Path compiled = folder.resolve("ReadmeExample.class");
        try {
            Files.writeString(file, source);
            String classes = Path.of(Collationer.class.getProtectionDomain().getCodeSource().getLocation().toURI()).toString();
            int result = ToolProvider.getSystemJavaCompiler()
                    .run(null, null, null, "-cp", classes, "-d", folder.toString(), file.toString());
            if (result != 0) {
                return List.of();
            }
            try (URLClassLoader loader = new URLClassLoader(new URL[] {folder.toUri().toURL()})) {
                return (List<?>) loader.loadClass("ReadmeExample").getMethod("run").invoke(null);
            }
        } finally {
            remove(compiled);
            remove(file);
            remove(folder);
        }
    }

    private static void remove(Path path) throws IOException {
        Files.deleteIfExists(path);
    }

    private static void everyCallIsNamed(String readme) {
        for (Method method : Collationer.class.getMethods()) {
            boolean isOwn = method.getDeclaringClass() == Collationer.class;
            if (isOwn && !readme.contains("`" + method.getName() + "(")) {
                wrong++;
                System.out.println("README.md does not tell of " + method.getName());
            }
        }
    }
}
