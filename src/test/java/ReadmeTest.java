import java.lang.reflect.Field;
import java.lang.reflect.InvocationTargetException;
import java.lang.reflect.Method;
import java.lang.reflect.Modifier;
import java.net.URL;
import java.net.URLClassLoader;
import java.nio.file.Files;
import java.nio.file.Path;
import java.util.ArrayList;
import java.util.List;
import java.util.regex.Matcher;
import java.util.regex.Pattern;
import javax.tools.JavaCompiler;
import javax.tools.ToolProvider;

/**
 * Every call and answer that README.md shows. Its Java is compiled as it stands there, all of it as one run; each line
 * "x.call(..);  // answer" becomes a call whose answer must be that one.
 */
public final class ReadmeTest {
    private static final Pattern CALL = Pattern.compile("(x\\.(\\w+)\\(.*\\)); *// (-?\\d+)(: (.*))?");
    private static final int MOST_CALLS = 512;

    private static int wrong = 0;
    private static int calls = 0;

    private final StringBuilder methods = new StringBuilder();
    private final StringBuilder run = new StringBuilder();
    private final List<String> shown = new ArrayList<>();
    private final List<String> answers = new ArrayList<>();

    public static void main(String[] args) throws Exception {
        ReadmeTest test = new ReadmeTest();
        String readme = Files.readString(Path.of("README.md"));
        test.read(readme);
        test.play();
        test.shownCalls();
        test.shownNames(readme);
        System.out.println(wrong == 0 ? "ReadmeTest: all answers are as shown" : wrong + " things are not as shown");
        if (wrong != 0) {
            System.exit(1);
        }
    }

    private static void tell(String what) {
        wrong++;
        System.out.println(what);
    }

    /** Called by what README.md shows. */
    public static void due(String call, long got, long shown) {
        calls++;
        if (got != shown) {
            tell("README.md: " + call + " answered " + got + ", shown is " + shown);
        }
    }

    // ---- reading

    private void read(String readme) {
        Matcher blocks = Pattern.compile("(?s)```java\n(.*?)```").matcher(readme);
        while (blocks.find()) {
            String block = blocks.group(1);
            if (block.startsWith("static ")) {
                methods.append(block);
                continue;
            }
            for (String line : block.split("\n")) {
                run.append(line.startsWith("x.") ? asDue(line) : line).append("\n");
            }
        }
    }

    private String asDue(String line) {
        Matcher call = CALL.matcher(line);
        if (!call.matches()) {
            tell("README.md shows no answer of: " + line);
            return line;
        }
        shown.add(call.group(2));
        answers.add(call.group(3) + " " + call.group(5));
        return "ReadmeTest.due(\"" + call.group(1) + "\", " + call.group(1) + ", " + call.group(3) + "L);";
    }

    // ---- playing

    private void play() throws Exception {
        Path folder = Files.createTempDirectory("readme");
        Path source = folder.resolve("Shown.java");
        Files.writeString(source, "public final class Shown {\n" + methods
                + "public static void main(String[] args) {\n" + run + "}\n}\n");
        JavaCompiler compiler = ToolProvider.getSystemJavaCompiler();
        String path = System.getProperty("java.class.path");
        int failed = compiler.run(null, null, null, "-cp", path, "-d", folder.toString(), source.toString());
        if (failed != 0) {
            tell("what README.md shows does not compile");
        } else {
            try (URLClassLoader loader = new URLClassLoader(new URL[] {folder.toUri().toURL()})) {
                loader.loadClass("Shown").getMethod("main", String[].class).invoke(null, (Object) new String[0]);
            } catch (InvocationTargetException e) {
                tell("what README.md shows has thrown " + e.getCause());
            }
        }
        Files.deleteIfExists(folder.resolve("Shown.class"));
        Files.delete(source);
        Files.delete(folder);
    }

    // ---- what must be shown

    private void shownCalls() {
        if (calls != shown.size() || calls == 0) {
            tell(calls + " of " + shown.size() + " calls that README.md shows were made");
        }
        Matcher lists = Pattern.compile("say\\(x, \"(.*)\"\\);").matcher(run);
        int signs = 0;
        while (lists.find()) {
            signs += lists.group(1).length();
        }
        if (calls + signs > MOST_CALLS) {
            tell("README.md shows more calls than an object may get: " + (calls + signs));
        }
        for (Method method : StairIdeals.class.getDeclaredMethods()) {
            if (Modifier.isPublic(method.getModifiers()) && !shown.contains(method.getName())) {
                tell("README.md does not show " + method.getName());
            }
        }
    }

    /** Each constant is told with its value, and an answer that is told by a constant's name is that one. */
    private void shownNames(String readme) throws IllegalAccessException {
        for (Field field : StairIdeals.class.getDeclaredFields()) {
            if (!Modifier.isPublic(field.getModifiers())) {
                continue;
            }
            long value = field.getLong(null);
            String plain = readme.replaceAll("(?<=\\d),(?=\\d)", "").replaceAll("\\s+", " ");
            if (!Pattern.compile("`" + field.getName() + "` (\\(|\\| )" + value + "\\b").matcher(plain).find()) {
                tell("README.md does not tell " + field.getName() + " with its value");
            }
            boolean met = field.getName().equals("GONE");
            for (String answer : answers) {
                if (answer.matches("\\S+ " + field.getName() + "\\b.*")) {
                    long told = Long.parseLong(answer.substring(0, answer.indexOf(' ')));
                    met = true;
                    if (told != value && told != value - 1000000 && told != value + StairIdeals.GONE) {
                        tell("README.md calls " + told + " " + field.getName());
                    }
                }
            }
            if (!met) {
                tell("README.md shows no call that answers " + field.getName());
            }
        }
    }
}
