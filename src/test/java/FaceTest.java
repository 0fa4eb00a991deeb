import java.lang.reflect.Constructor;
import java.lang.reflect.Field;
import java.lang.reflect.Method;
import java.lang.reflect.Modifier;
import java.nio.charset.StandardCharsets;
import java.nio.file.Files;
import java.nio.file.Path;
import java.util.Set;
import java.util.TreeSet;

/** "The public face" of the document, line by line, beside what of the class can be seen from outside. */
public final class FaceTest {
    private static final int SEEN = Modifier.PUBLIC | Modifier.PROTECTED;

    public static void main(String[] args) throws Exception {
        Set<String> promised = promised();
        Set<String> there = there();
        Due.due("lines of the document's face", promised.size(), 42);
        for (String line : promised) {
            Due.due("the class has: " + line, there.contains(line) ? 1 : 0, 1);
        }
        for (String line : there) {
            Due.due("the document has: " + line, promised.contains(line) ? 1 : 0, 1);
        }
        theClassItself();
        Due.due("NONE", TruthHats.NONE, -1);
        Due.end("FaceTest");
    }

    private static Set<String> promised() throws Exception {
        String document = Files.readString(Path.of("../shared/DOC.md"), StandardCharsets.UTF_8);
        int start = document.indexOf("```java", document.indexOf("## The public face"));
        int end = document.indexOf("```", start + 3);
        Set<String> lines = new TreeSet<>();
        for (String line : document.substring(start, end).split("\n")) {
            String told = line.trim();
            if (told.startsWith("public ")) {
                // the names of parameters are none of the class's face
                lines.add(told.replaceAll("(\\w+) \\w+(?=[,)])", "$1").replaceAll(" *[;{]$", ""));
            }
        }
        return lines;
    }

    private static Set<String> there() throws Exception {
        Class<?> type = TruthHats.class;
        Set<String> lines = new TreeSet<>();
        lines.add(Modifier.toString(type.getModifiers()) + " class " + type.getName());
        for (Field field : type.getDeclaredFields()) {
            if (isSeen(field.getModifiers())) {
                String value = Modifier.isStatic(field.getModifiers()) ? " = " + field.get(null) : "";
                lines.add(Modifier.toString(field.getModifiers()) + " " + field.getType() + " " + field.getName() + value);
            }
        }
        for (Constructor<?> constructor : type.getDeclaredConstructors()) {
            lines.add(Modifier.toString(constructor.getModifiers()) + " " + type.getName()
                    + parameters(constructor.getParameterTypes()));
        }
        for (Method method : type.getDeclaredMethods()) {
            if (isSeen(method.getModifiers())) {
                lines.add(Modifier.toString(method.getModifiers()) + " " + method.getReturnType() + " "
                        + method.getName() + parameters(method.getParameterTypes()));
            }
        }
        return lines;
    }

    /** What bears no word at all is seen from beside, too. */
    private static boolean isSeen(int modifiers) {
        return (modifiers & SEEN) != 0 || !Modifier.isPrivate(modifiers);
    }

    private static String parameters(Class<?>[] types) {
        StringBuilder told = new StringBuilder("(");
        for (Class<?> type : types) {
            told.append(told.length() == 1 ? "" : ", ").append(type);
        }
        return told.append(')').toString();
    }

    private static void theClassItself() {
        Class<?> type = TruthHats.class;
        Due.due("the class has no package", type.getPackageName().length(), 0);
        Due.due("it is above none but Object", type.getSuperclass() == Object.class ? 1 : 0, 1);
        Due.due("it implements nothing", type.getInterfaces().length, 0);
        for (Class<?> inside : type.getDeclaredClasses()) {
            boolean open = (inside.getModifiers() & SEEN) != 0;
            Due.due("seen from outside: " + inside.getName(), open ? 1 : 0, 0);
        }
    }
}
