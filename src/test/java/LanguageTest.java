import java.lang.reflect.Constructor;
import java.lang.reflect.Field;
import java.lang.reflect.Method;
import java.lang.reflect.Modifier;
import java.nio.charset.StandardCharsets;
import java.nio.file.Files;
import java.nio.file.Path;
import java.util.ArrayList;
import java.util.List;
import java.util.Set;
import java.util.TreeSet;
import java.util.regex.Matcher;
import java.util.regex.Pattern;

/** What of shared/LANGUAGE.md can be seen from the class's file and its members. */
public final class LanguageTest {
    private static final String[] FACE = {"int hat(int,int)", "int of(int,int)", "int two(int,int,int)", "int on(int)",
        "int terms(int,int)", "int feed(int,int,int,int,int)", "int end(int)", "int row()", "int caps()", "int law()",
        "int orders()", "int fault()", "int stopped()", "int force(int)", "int hang(int,int)", "int take(int)",
        "int think(int,int)", "int pass()", "int undo()", "int later(int,int)", "int learns(int,int)", "int still()",
        "int pegFor(int,int,int,int)", "int cut(int,int,int)", "int quiet(int,int)", "int groups(int)",
        "int talkative(int)", "int heard(int,int)", "int forget()", "int canBe()", "int ask(int)", "long few(int,int)",
        "int compare(int,int,int)", "int capitals(int,int)", "int drawn(int,int)", "int image(int)", "int back(int)",
        "int count(int)", "int status()"};
    private static final Set<String> LIBRARY = Set.of("Math", "Integer", "Long", "String", "StringBuilder", "System",
            "Arrays", "ArrayList", "List", "Iterator", "Iterable", "Comparable", "Override");

    public static void main(String[] args) throws Exception {
        String source = Files.readString(Path.of("src/main/java/TruthHats.java"), StandardCharsets.UTF_8);
        String code = source.replaceAll("(?s)/\\*.*?\\*/", " ").replaceAll("//[^\n]*", " ");
        String bare = code.replaceAll("\"[^\"\n]*\"", "\"\"").replaceAll("'[^\n]'", "' '");
        List<Class<?>> classes = new ArrayList<>(List.of(TruthHats.class.getDeclaredClasses()));
        classes.add(TruthHats.class);
        face();
        members(classes);
        words(bare);
        texts(source);
        methodLengths(code);
        Due.due("at most twelve classes", classes.size() <= 12 ? 1 : 0, 1);
        Due.end("LanguageTest");
    }

    private static void no(String what, boolean found) {
        Due.due("rules: " + what, found ? 1 : 0, 0);
    }

    private static void face() {
        Set<String> due = new TreeSet<>(List.of(FACE));
        Set<String> names = new TreeSet<>();
        for (Method method : TruthHats.class.getDeclaredMethods()) {
            if (!Modifier.isPrivate(method.getModifiers())) {
                StringBuilder told = new StringBuilder(method.getReturnType() + " " + method.getName() + "(");
                for (Class<?> type : method.getParameterTypes()) {
                    told.append(told.charAt(told.length() - 1) == '(' ? "" : ",").append(type);
                }
                no(told + ") is not in the face", !due.remove(told + ")"));
                no(told + ") is not just public", method.getModifiers() != Modifier.PUBLIC);
            }
            names.add(method.getName());
        }
        no("missing: " + due, !due.isEmpty());
        for (Field field : TruthHats.class.getDeclaredFields()) {
            no("open field " + field.getName(),
                    !Modifier.isPrivate(field.getModifiers()) && !field.getName().equals("NONE"));
        }
        Constructor<?>[] constructors = TruthHats.class.getDeclaredConstructors();
        no("another constructor", constructors.length != 1 || constructors[0].getParameterCount() != 0);
        no("the class is open", !Modifier.isFinal(TruthHats.class.getModifiers()));
        no("names: " + names, names.isEmpty());
    }

    private static void members(List<Class<?>> classes) {
        Set<String> open = new TreeSet<>();
        for (String member : FACE) {
            open.add(member.substring(member.indexOf(' ') + 1, member.indexOf('(')));
        }
        for (Class<?> type : classes) {
            boolean outer = type == TruthHats.class;
            no("a class that is not static: " + type, !outer && !Modifier.isStatic(type.getModifiers()));
            no("an open class: " + type, !outer && (type.getModifiers() & (Modifier.PUBLIC | Modifier.PROTECTED)) != 0);
            int fields = 0;
            for (Field field : type.getDeclaredFields()) {
                boolean isStatic = Modifier.isStatic(field.getModifiers());
                fields += isStatic ? 0 : 1;
                no("a static field that changes: " + field, isStatic && !Modifier.isFinal(field.getModifiers()));
                boolean plain = Set.of("int", "long", "boolean", "char", "class java.lang.String")
                        .contains(field.getType().toString());
                no("a static field of another type: " + field, isStatic && !plain);
            }
            no(type + " has " + fields + " fields", fields > 20);
            for (Method method : type.getDeclaredMethods()) {
                boolean isPublic = outer && Modifier.isPublic(method.getModifiers());
                no("a second " + method, !isPublic && open.contains(method.getName()));
                no("more than seven parameters: " + method, method.getParameterCount() > 7);
            }
        }
    }

    private static void words(String bare) {
        for (String word : ("throw throws try catch finally synchronized assert import package while do lambda var native "
                + "transient volatile record enum equals hashCode toString clone Object Exception").split(" ")) {
            no("the word " + word, Pattern.compile("\\b" + word + "\\b").matcher(bare).find());
        }
        no("a lambda", bare.contains("->"));
        no("a method reference", bare.contains("::"));
        no("a loop without a bound", Pattern.compile("for \\([^;]*; *;").matcher(bare).find());
        no("a static block", Pattern.compile("static \\{").matcher(bare).find());
        no("joined texts", Pattern.compile("\"\" *\\+|\\+ *\"\"").matcher(bare).find());
        Matcher matcher = Pattern.compile("\\b([A-Z][a-z]\\w*)\\b").matcher(bare);
        Set<String> own = new TreeSet<>();
        Matcher declared = Pattern.compile("class (\\w+)").matcher(bare);
        while (declared.find()) {
            own.add(declared.group(1));
        }
        while (matcher.find()) {
            no("a name from elsewhere: " + matcher.group(1),
                    !own.contains(matcher.group(1)) && !LIBRARY.contains(matcher.group(1)));
        }
        no("a function whose name ends in Exact", bare.contains("Exact("));
    }

    private static void texts(String source) {
        for (int i = 0; i < source.length(); i++) {
            if (source.charAt(i) > 126) {
                no("a sign beyond 126 at " + i, true);
            }
        }
        for (String line : source.split("\n")) {
            no("a long line: " + line, line.length() > 120);
        }
    }

    private static void methodLengths(String code) {
        String[] lines = code.split("\n", -1);
        int start = -1;
        String indent = "";
        for (int i = 0; i < lines.length; i++) {
            Matcher head = Pattern.compile("^( +)[\\w\\[\\] ]+\\(.*\\) \\{$").matcher(lines[i]);
            boolean member = head.matches() && (head.group(1).length() == 4 || head.group(1).length() == 8)
                    && !lines[i].trim().startsWith("for") && !lines[i].trim().startsWith("if")
                    && !lines[i].trim().startsWith("switch");
            if (member && start < 0) {
                start = i;
                indent = head.group(1);
            } else if (start >= 0 && lines[i].equals(indent + "}")) {
                no("a long method: " + lines[start].trim(), i - start + 1 > 60);
                start = -1;
            }
        }
    }
}
