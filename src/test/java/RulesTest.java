import java.lang.management.ManagementFactory;
import java.lang.reflect.Field;
import java.lang.reflect.Method;
import java.lang.reflect.Modifier;
import java.nio.file.Files;
import java.nio.file.Path;
import java.util.Set;
import java.util.TreeSet;
import java.util.regex.Matcher;
import java.util.regex.Pattern;

/** The public face, the rules of LANGUAGE.md that a test can see, and calls with any arguments at all. */
public final class RulesTest {
    private static final String[] FACE = {"int say(int)", "int wipe()", "int fault()", "int load(int)",
        "int generator(int,int)", "int has(int,int)", "int make(int,int,int,int)", "int compare(int,int)",
        "int part(int,int)", "int prime(int,int)", "int primary(int,int,int)", "int dual(int,int,int)",
        "int count(int,int)", "int series(int,int)", "int facts(int,int)", "int betti(int,int)",
        "int bettiAt(int,int,int)", "long share(int,int,int)", "int hold(int,int,int,boolean)",
        "int take(int,int,int)", "int measure(int,int)", "int image(int)", "int restore(int)", "int told(int)"};
    private static final int[] EXTREMES = {Integer.MIN_VALUE, -1000, -7, -2, -1, 0, 1, 2, 3, 4, 5, 15, 16, 40, 60, 61,
        1111, 6666, 6667, 10000, Integer.MAX_VALUE};
    private static int wrong = 0;

    public static void main(String[] args) throws Exception {
        face();
        source();
        anyArguments();
        room();
        System.out.println(wrong == 0 ? "RulesTest: all is as due" : wrong + " things are not as due");
        if (wrong != 0) {
            System.exit(1);
        }
    }

    private static void due(String what, Object got, Object want) {
        if (!got.equals(want)) {
            wrong++;
            System.out.println(what + ": " + got + ", due is " + want);
        }
    }

    private static String shape(Method method) {
        StringBuilder out = new StringBuilder(method.getReturnType() + " " + method.getName() + "(");
        for (Class<?> type : method.getParameterTypes()) {
            out.append(out.charAt(out.length() - 1) == '(' ? "" : ",").append(type);
        }
        return out.append(")").toString();
    }

    private static void face() throws Exception {
        Set<String> found = new TreeSet<>();
        Set<String> names = new TreeSet<>();
        for (Method method : StairIdeals.class.getDeclaredMethods()) {
            if (!Modifier.isPrivate(method.getModifiers())) {
                due(method.getName() + " is public", Modifier.isPublic(method.getModifiers()), true);
                found.add(shape(method));
                names.add(method.getName());
            }
        }
        due("methods", found, new TreeSet<>(Set.of(FACE)));
        due("constructors", StairIdeals.class.getDeclaredConstructors().length, 1);
        due("the constructor", Modifier.isPublic(StairIdeals.class.getConstructor().getModifiers()), true);
        due("final", Modifier.isFinal(StairIdeals.class.getModifiers()), true);
        Set<String> constants = new TreeSet<>();
        for (Field field : StairIdeals.class.getDeclaredFields()) {
            if (!Modifier.isPrivate(field.getModifiers())) {
                constants.add(field.getType() + " " + field.getName() + " " + field.get(null));
            }
        }
        due("constants", constants, new TreeSet<>(Set.of("int UNKNOWN -1", "int OUTSIDE -2", "int STATE -3",
                "int FULL -4", "int NO -5", "int NONE -6", "long GONE -1000000000000000000")));
        due("classes", StairIdeals.class.getDeclaredClasses().length <= 12, true);
        for (Class<?> inside : StairIdeals.class.getDeclaredClasses()) {
            due(inside + " is static", Modifier.isStatic(inside.getModifiers()), true);
            due(inside + " has few fields", inside.getDeclaredFields().length <= 20, true);
            for (Method method : inside.getDeclaredMethods()) {
                due("a name of the face: " + method, names.contains(method.getName()), false);
            }
        }
        for (Method method : StairIdeals.class.getDeclaredMethods()) {
            if (Modifier.isPrivate(method.getModifiers())) {
                due("a name of the face: " + method, names.contains(method.getName()), false);
            }
        }
    }

    private static void source() throws Exception {
        String text = Files.readString(Path.of("src/main/java/StairIdeals.java"));
        for (int i = 0; i < text.length(); i++) {
            if (text.charAt(i) > 126) {
                due("sign " + i, (int) text.charAt(i), "plain");
            }
        }
        String code = text.replaceAll("(?s)/\\*.*?\\*/", "").replaceAll("//[^\n]*", "");
        Matcher match = Pattern.compile("\\b(throw|throws|try|catch|synchronized|assert|package|Exact|protected|var"
                + "|System\\.out|Random|Thread|Float|Double|Object|StringBuilder|String)\\b|->|::|Exact\\(")
                .matcher(code);
        while (match.find()) {
            due("a word that the rules leave out", match.group(), "nothing");
        }
        Matcher imports = Pattern.compile("import ([^;]*);").matcher(code);
        while (imports.find()) {
            due("import", imports.group(1), "java.util.Arrays");
        }
        String[] lines = code.split("\n");
        int start = -1;
        for (int n = 0; n < lines.length; n++) {
            if (lines[n].matches("( {4}| {8})(public|private|static|final|[a-zA-Z\\[\\]]+) .*\\{")
                    && !lines[n].contains(" class ")) {
                start = n;
            } else if (lines[n].matches(" {4}\\}| {8}\\}") && start >= 0) {
                due("lines of the method at " + lines[start], n - start <= 60, true);
                start = -1;
            }
        }
    }

    private static void say(StairIdeals x, String text) {
        for (int i = 0; i < text.length(); i++) {
            x.say(text.charAt(i));
        }
    }

    private static StairIdeals[] states() {
        StairIdeals[] all = new StairIdeals[4];
        for (int n = 0; n < all.length; n++) {
            all[n] = new StairIdeals();
        }
        say(all[1], "a6,b6,c6,d6,abcd,a3b3,c3d3");
        all[1].load(0);
        say(all[1], "1");
        all[1].load(1);
        say(all[1], "a,b,c,d");
        all[1].load(2);
        all[1].hold(0, 0, 0, false);
        all[1].hold(1, 1, 1, true);
        all[1].hold(2, 2, 2, true);
        all[1].image(0);
        for (int n = 0; n < 60; n++) {
            all[2].say('a');
        }
        all[2].image(1);
        say(all[3], "a,b,c,d");
        all[3].load(0);
        all[3].make(2, 0, 0, 1);
        all[3].make(2, 1, 1, 2);
        say(all[3], "a,");
        return all;
    }

    private static void anyArguments() throws Exception {
        for (Method method : StairIdeals.class.getDeclaredMethods()) {
            if (!Modifier.isPublic(method.getModifiers())) {
                continue;
            }
            for (StairIdeals x : states()) {
                tryAll(x, method, new Object[method.getParameterCount()], 0);
            }
        }
    }

    private static void tryAll(StairIdeals x, Method method, Object[] arguments, int at) throws Exception {
        if (at == arguments.length) {
            try {
                method.invoke(x, arguments);
            } catch (java.lang.reflect.InvocationTargetException e) {
                due(method + " with " + java.util.Arrays.toString(arguments), e.getCause(), "an answer");
            }
            return;
        }
        if (method.getParameterTypes()[at] == boolean.class) {
            arguments[at] = true;
            tryAll(x, method, arguments, at + 1);
            arguments[at] = false;
            tryAll(x, method, arguments, at + 1);
            return;
        }
        for (int extreme : EXTREMES) {
            arguments[at] = extreme;
            tryAll(x, method, arguments, at + 1);
        }
    }

    /** A new object and its 512 calls must take but little of the room that all runs share. */
    private static void room() {
        com.sun.management.ThreadMXBean bean = (com.sun.management.ThreadMXBean) ManagementFactory.getThreadMXBean();
        for (int turn = 0; turn < 2; turn++) {
            long before = bean.getThreadAllocatedBytes(Thread.currentThread().getId());
            StairIdeals x = new StairIdeals();
            for (int sign : new int[] {'a', '2', ',', 'b', 'c', ',', 'd', '3', ',', 'a', 'c', 'd'}) {
                x.say(sign);
            }
            x.load(0);
            for (int n = 0; n < 25; n++) {
                x.make(n % 5, n & 3, n >> 2 & 3, n >> 1 & 3);
                x.compare(0, 1);
                x.part(0, n);
                x.prime(0, n);
                x.primary(0, 15, 1);
                x.dual(0, 6666, 2);
                x.count(0, n);
                x.series(0, n);
                x.facts(0, n % 5);
                x.betti(0, n % 4);
                x.bettiAt(0, n % 4, 1111);
                x.share(0, n, n % 3);
                x.hold(2, n % 4, 0, n % 2 == 0);
                x.take(2, n % 4, 3);
                x.measure(2, n % 4);
                x.image(n % 2);
                x.restore(n % 2);
            }
            long taken = bean.getThreadAllocatedBytes(Thread.currentThread().getId()) - before;
            due("room taken by a run: " + taken, taken < 64000, true);
        }
    }
}
