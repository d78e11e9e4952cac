import java.net.URL;
import java.net.URLClassLoader;
import java.nio.file.Files;
import java.nio.file.Path;
import java.util.ArrayList;
import java.util.List;
import java.util.Set;
import java.util.TreeSet;
import java.util.regex.Matcher;
import java.util.regex.Pattern;
import java.util.stream.Stream;
import javax.tools.ToolProvider;

/** What README.md says is so: its calls are Java and answer as it says, and it names the command and all tests. */
public final class ReadmeTest {
    private static final Pattern BLOCK = Pattern.compile("```java\n(.*?)```", Pattern.DOTALL);
    private static final Pattern MADE = Pattern.compile("FunctionRows x = new FunctionRows\\(\\);");
    private static final Pattern CALL = Pattern.compile(
        "(int (\\w+) = )?(x\\.(\\w+)\\([^)]*\\)); +// (-?\\d+|BAD|NO|FULL)(: .*)?");
    private static final String[] FACE = {
        "type", "text", "whole", "leaf", "call", "takes", "run", "number", "tag", "letter", "give", "drop", "uses",
        "depth", "clear", "size"
    };

    public static void main(String[] args) throws Exception {
        String readme = Files.readString(Path.of("README.md"));
        callsAnswerAsShown(readme);
        commandIsThere(readme);
        testsAreNamed(readme);
        Check.end();
    }

    private static void callsAnswerAsShown(String readme) throws Exception {
        StringBuilder body = new StringBuilder();
        List<String> calls = new ArrayList<>();
        List<String> due = new ArrayList<>();
        Set<String> shown = new TreeSet<>();
        Matcher block = BLOCK.matcher(readme);
        while (block.find()) {
            body.append("{\n");
            for (String line : block.group(1).split("\n")) {
                Matcher call = CALL.matcher(line);
                if (call.matches()) {
                    body.append(call.group(2) == null ? asked(call.group(3))
                        : call.group(1) + call.group(3) + ";\n" + asked(call.group(2)));
                    calls.add(call.group(3));
                    due.add(number(call.group(5)));
                    shown.add(call.group(4));
                } else {
                    Check.due("README.md, a line of Java: " + line, MADE.matcher(line).matches() ? 1 : 0, 1);
                    body.append(line).append('\n');
                }
            }
            body.append("}\n");
        }
        Check.due("the methods that README.md shows", shown.toString(), new TreeSet<>(Set.of(FACE)).toString());
        List<?> answers = answers(body.toString());
        Check.due("README.md: how many calls answer", answers.size(), calls.size());
        for (int i = 0; i < Math.min(answers.size(), calls.size()); i++) {
            Check.due("README.md, call " + i + ", " + calls.get(i), answers.get(i).toString(), due.get(i));
        }
    }

    private static String asked(String expression) {
        return "all.add((long) " + expression + ");\n";
    }

    private static String number(String answer) {
        switch (answer) {
            case "BAD": return "-1";
            case "NO": return "-2";
            case "FULL": return "-3";
            default: return answer;
        }
    }

    /** Compiles what README.md shows as it stands there, so that it has to be Java, and runs it. */
    private static List<?> answers(String body) throws Exception {
        Path room = Files.createTempDirectory("readme");
        try {
            Path file = room.resolve("ReadmeCalls.java");
            Files.writeString(file, "public final class ReadmeCalls {\npublic static java.util.List<Long> answers() {\n"
                + "java.util.List<Long> all = new java.util.ArrayList<>();\n" + body + "return all;\n}\n}\n");
            int exit = ToolProvider.getSystemJavaCompiler().run(null, null, null, "-cp",
                System.getProperty("java.class.path"), "-d", room.toString(), file.toString());
            Check.due("README.md: the compiler's exit code", exit, 0);
            if (exit != 0) {
                return List.of();
            }
            try (URLClassLoader loader = new URLClassLoader(new URL[] {room.toUri().toURL()})) {
                return (List<?>) loader.loadClass("ReadmeCalls").getMethod("answers").invoke(null);
            }
        } finally {
            Files.deleteIfExists(room.resolve("ReadmeCalls.java"));
            Files.deleteIfExists(room.resolve("ReadmeCalls.class"));
            Files.deleteIfExists(room);
        }
    }

    private static void commandIsThere(String readme) {
        String section = readme.substring(readme.indexOf("## How to run its tests"));
        Matcher command = Pattern.compile("(?m)^    (\\S+)$").matcher(section);
        Check.due("the command that README.md names", command.find() ? command.group(1) : "none", ".ci/run");
        Check.due("it can be executed", Files.isExecutable(Path.of(".ci/run")) ? 1 : 0, 1);
    }

    private static void testsAreNamed(String readme) throws Exception {
        Set<String> named = new TreeSet<>();
        Matcher name = Pattern.compile("`(\\w+Test)`").matcher(readme);
        while (name.find()) {
            named.add(name.group(1));
        }
        Set<String> there = new TreeSet<>();
        try (Stream<Path> files = Files.list(Path.of("src/test/java"))) {
            files.map(file -> file.getFileName().toString()).filter(file -> file.endsWith("Test.java"))
                .forEach(file -> there.add(file.substring(0, file.length() - ".java".length())));
        }
        Check.due("the tests that README.md names", named.toString(), there.toString());
    }
}
