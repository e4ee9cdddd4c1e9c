import java.io.IOException;
import java.lang.reflect.Method;
import java.lang.reflect.Modifier;
import java.net.URI;
import java.nio.file.Files;
import java.nio.file.Path;
import java.util.ArrayList;
import java.util.HashSet;
import java.util.List;
import java.util.Set;
import java.util.regex.Matcher;
import java.util.regex.Pattern;
import javax.tools.Diagnostic;
import javax.tools.DiagnosticCollector;
import javax.tools.JavaCompiler;
import javax.tools.JavaFileObject;
import javax.tools.SimpleJavaFileObject;
import javax.tools.ToolProvider;

/** What README.md shows as a use of the class: it compiles, and each call has the answer written beside it. */
public final class ReadmeTest {
    private static final String NEW = "ChannelHall hall = new ChannelHall();";
    /** A call, and behind it its answer, alone or with a word on it behind a colon. */
    private static final Pattern CALL =
        Pattern.compile("hall\\.((\\w+)\\([^()]*\\));\\s*// (throws \\w+|-?\\d+(?:\\.\\d+)?)(?:: .+)?");

    private record Example(String title, List<String> lines) {
    }

    public static void main(String[] args) throws IOException {
        List<Example> examples = examples(Files.readAllLines(Path.of("README.md")));
        Set<String> shown = new HashSet<>();
        for (Example example : examples) {
            check(example, shown);
        }
        checkShown(shown);
        checkCompiles(examples);
        Runs.end();
    }

    private static List<Example> examples(List<String> lines) {
        List<Example> examples = new ArrayList<>();
        String heading = "";
        List<String> inside = null;
        for (String line : lines) {
            if (line.equals("```java")) {
                inside = new ArrayList<>();
                examples.add(new Example("README.md, " + heading, inside));
            } else if (line.startsWith("```")) {
                inside = null;
            } else if (inside != null) {
                inside.add(line.strip());
            } else if (line.startsWith("#")) {
                heading = line.replace("#", "").strip();
            }
        }
        return examples;
    }

    private static void check(Example example, Set<String> shown) {
        StringBuilder run = new StringBuilder();
        if (example.lines.isEmpty() || !example.lines.get(0).equals(NEW)) {
            Runs.fail(example.title + ": does not begin with " + NEW);
            return;
        }
        for (String line : example.lines.subList(1, example.lines.size())) {
            Matcher call = CALL.matcher(line);
            if (call.matches()) {
                shown.add(call.group(2));
                run.append(call.group(1)).append(" = ").append(call.group(3).replace("throws ", "throws.")).append('\n');
            } else if (!line.isEmpty()) {
                Runs.fail(example.title + ": no call with its answer: " + line);
            }
        }
        Runs.check(example.title, run.toString());
    }

    private static void checkShown(Set<String> shown) {
        for (Method method : ChannelHall.class.getDeclaredMethods()) {
            if (Modifier.isPublic(method.getModifiers()) && !shown.contains(method.getName())) {
                Runs.fail("README.md shows no use of " + method.getName());
            }
        }
    }

    /** Runs reads every argument as a double; javac sees whether a reader can write it so. */
    private static void checkCompiles(List<Example> examples) {
        StringBuilder code = new StringBuilder("final class ReadmeUse {\n");
        for (int i = 0; i < examples.size(); i++) {
            code.append("void use" + i + "() {\n" + String.join("\n", examples.get(i).lines) + "\n}\n");
        }
        DiagnosticCollector<JavaFileObject> said = new DiagnosticCollector<>();
        JavaCompiler javac = ToolProvider.getSystemJavaCompiler();
        String classes = System.getProperty("java.class.path");
        List<String> options = List.of("-proc:none", "-implicit:none", "-cp", classes, "-d", classes);
        if (!javac.getTask(null, null, said, options, null, List.of(source(code + "}\n"))).call()) {
            for (Diagnostic<?> one : said.getDiagnostics()) {
                Runs.fail("README.md does not compile: " + one);
            }
        }
    }

    private static JavaFileObject source(String code) {
        return new SimpleJavaFileObject(URI.create("string:///ReadmeUse.java"), JavaFileObject.Kind.SOURCE) {
            @Override
            public CharSequence getCharContent(boolean ignoreEncodingErrors) {
                return code;
            }
        };
    }
}
