import java.io.IOException;
import java.lang.reflect.Method;
import java.net.URL;
import java.net.URLClassLoader;
import java.nio.charset.StandardCharsets;
import java.nio.file.Files;
import java.nio.file.Path;
import java.util.ArrayList;
import java.util.List;
import java.util.regex.Matcher;
import java.util.regex.Pattern;
import javax.tools.JavaCompiler;
import javax.tools.ToolProvider;

/** What README.md shows: its Java is compiled and run as it stands there, each call with the answer told behind it. */
public final class ReadmeTest {
    private static final Pattern ANSWERED = Pattern.compile("(int \\w+ = )?(hats\\.\\w+\\(.*\\)); *// (-?\\d+)\\b.*");
    private static final Pattern CALL = Pattern.compile("\\bhats\\.(\\w+)\\(");

    public static void main(String[] args) throws Exception {
        String readme = Files.readString(Path.of("README.md"), StandardCharsets.UTF_8);
        List<List<String>> blocks = blocks(readme);
        Due.due("README.md shows Java", blocks.isEmpty() ? 0 : 1, 1);
        run(program(blocks));
        eachCallIsNamed(readme);
        eachPathIsThere(readme);
        Due.end("ReadmeTest");
    }

    private static List<List<String>> blocks(String readme) {
        List<List<String>> blocks = new ArrayList<>();
        boolean isJava = false;
        for (String line : readme.split("\n")) {
            if (line.startsWith("```")) {
                isJava = line.equals("```java");
                if (isJava) {
                    blocks.add(new ArrayList<>());
                }
            } else if (isJava) {
                blocks.get(blocks.size() - 1).add(line);
            }
        }
        return blocks;
    }

    /** All blocks as one class: those that begin with "static" are its methods, the others are run one behind another. */
    private static String program(List<List<String>> blocks) {
        StringBuilder methods = new StringBuilder();
        StringBuilder calls = new StringBuilder();
        for (List<String> block : blocks) {
            boolean isMethod = block.get(0).startsWith("static ");
            for (String line : block) {
                (isMethod ? methods : calls).append(isMethod ? line : asked(line)).append('\n');
            }
        }
        return "public final class Readme {\n" + methods
                + "public static void run(java.util.List<Object[]> told) {\n" + calls + "}\n}\n";
    }

    /** A line with what its call answers put beside what README.md tells of it. */
    private static String asked(String line) {
        Matcher answered = ANSWERED.matcher(line);
        if (!answered.matches()) {
            Due.due("README.md: a call without its answer: " + line, CALL.matcher(line).find() ? 1 : 0, 0);
            return line;
        }
        String call = answered.group(2);
        String name = "answer";
        String start = "{ long answer = ";
        String end = " }";
        if (answered.group(1) != null) {
            name = answered.group(1).substring(4, answered.group(1).length() - 3);
            start = answered.group(1);
            end = "";
        }
        return start + call + "; told.add(new Object[] {\"" + call + "\", (long) " + name + ", "
                + answered.group(3) + "L});" + end;
    }

    private static void run(String program) throws Exception {
        JavaCompiler compiler = ToolProvider.getSystemJavaCompiler();
        Due.due("there is a compiler", compiler == null ? 0 : 1, 1);
        if (compiler == null) {
            return;
        }
        Path folder = Files.createTempDirectory("readme");
        Path file = folder.resolve("Readme.java");
        Files.writeString(file, program);
        String classes = Path.of(TruthHats.class.getProtectionDomain().getCodeSource().getLocation().toURI()).toString();
        int result = compiler.run(null, null, null, "-cp", classes, "-d", folder.toString(), file.toString());
        Due.due("README.md's Java compiles", result, 0);
        if (result == 0) {
            List<Object[]> told = new ArrayList<>();
            try (URLClassLoader loader = new URLClassLoader(new URL[] {folder.toUri().toURL()})) {
                Method method = loader.loadClass("Readme").getMethod("run", List.class);
                method.invoke(null, told);
            }
            for (Object[] answer : told) {
                Due.due("README.md: " + answer[0], (Long) answer[1], (Long) answer[2]);
            }
            Due.due("README.md's calls are run", told.isEmpty() ? 0 : 1, 1);
        }
        remove(folder);
    }

    private static void remove(Path folder) throws IOException {
        for (String name : new String[] {"Readme.java", "Readme.class"}) {
            Files.deleteIfExists(folder.resolve(name));
        }
        Files.delete(folder);
    }

    /** How to use the class is told only if no call of its face is left out. */
    private static void eachCallIsNamed(String readme) {
        for (Method method : TruthHats.class.getDeclaredMethods()) {
            if (java.lang.reflect.Modifier.isPublic(method.getModifiers())) {
                boolean named = Pattern.compile("\\b" + method.getName() + "\\(").matcher(readme).find();
                Due.due("README.md names " + method.getName() + "()", named ? 1 : 0, 1);
            }
        }
    }

    private static void eachPathIsThere(String readme) {
        Matcher path = Pattern.compile("`((?:src|\\.\\./shared)/[\\w/.]*)`").matcher(readme);
        while (path.find()) {
            Due.due("there is " + path.group(1), Files.exists(Path.of(path.group(1))) ? 1 : 0, 1);
        }
        Due.due("there is .ci/run", Files.isExecutable(Path.of(".ci/run")) ? 1 : 0, 1);
    }
}
