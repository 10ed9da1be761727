import java.io.DataInputStream;
import java.io.IOException;
import java.io.InputStream;
import java.lang.management.ManagementFactory;
import java.lang.reflect.Field;
import java.lang.reflect.Method;
import java.lang.reflect.Modifier;
import java.nio.file.Files;
import java.nio.file.Path;
import java.util.ArrayList;
import java.util.HashMap;
import java.util.List;
import java.util.Map;
import java.util.Set;
import java.util.TreeSet;
import java.util.regex.Matcher;
import java.util.regex.Pattern;

/** The public face, the rules of LANGUAGE.md that a test can see, and calls with any arguments at all. */
public final class RulesTest {
    private static final String[] FACE = {"int say(int)", "int wipe()", "int fault()", "int load(int)",
        "int generator(int,int)", "int has(int,int)", "int make(int,int,int,int)", "int compare(int,int)",
        "int part(int,int)", "int prime(int,int)", "int primary(int,int,int)", "int dual(int,int,int)",
        "int count(int,int)", "int series(int,int)", "int facts(int,int)", "int betti(int,int)",
        "int bettiAt(int,int,int)", "long share(int,int,int)", "int hold(int,int,int,boolean)",
        "int take(int,int,int)", "int measure(int,int)", "int image(int)", "int restore(int)", "int told(int)"};
    private static final int[] EXTREMES = {Integer.MIN_VALUE, -1000, -7, -2, -1, 0, 1, 2, 3, 4, 5, 15, 16, 40, 60, 61,
        1111, 6666, 6667, 10000, Integer.MAX_VALUE};
    /** Of what rule 4 lists, all that the class uses; what is added to the class is looked up there first. */
    private static final Set<String> LIBRARY = Set.of("java/lang/Object.<init>", "java/lang/Integer.bitCount",
        "java/lang/Math.max", "java/lang/Math.min", "java/lang/System.arraycopy", "java/util/Arrays.fill");
    private static final int MOST_CALLS = 512;
    private static final int MOST_DEEP = 8;
    private static int wrong = 0;

    public static void main(String[] args) throws Exception {
        face();
        members();
        source();
        compiled();
        anyArguments();
        room();
        System.out.println(wrong == 0 ? "RulesTest: all is as due" : wrong + " things are not as due");
        if (wrong != 0) {
            System.exit(1);
        }
    }

    private static void due(String what, Object got, Object want) {
        if (!got.equals(want)) {
            wrong++;
            System.out.println(what + ": " + got + ", due is " + want);
        }
    }

    private static String shape(Method method) {
        StringBuilder out = new StringBuilder(method.getReturnType() + " " + method.getName() + "(");
        for (Class<?> type : method.getParameterTypes()) {
            out.append(out.charAt(out.length() - 1) == '(' ? "" : ",").append(type);
        }
        return out.append(")").toString();
    }

    private static void face() throws Exception {
        Set<String> found = new TreeSet<>();
        Set<String> names = new TreeSet<>();
        for (Method method : StairIdeals.class.getDeclaredMethods()) {
            if (!Modifier.isPrivate(method.getModifiers())) {
                due(method.getName() + " is public", Modifier.isPublic(method.getModifiers()), true);
                found.add(shape(method));
                names.add(method.getName());
            }
        }
        due("methods", found, new TreeSet<>(Set.of(FACE)));
        due("constructors", StairIdeals.class.getDeclaredConstructors().length, 1);
        due("the constructor", Modifier.isPublic(StairIdeals.class.getConstructor().getModifiers()), true);
        due("final", Modifier.isFinal(StairIdeals.class.getModifiers()), true);
        Set<String> constants = new TreeSet<>();
        for (Field field : StairIdeals.class.getDeclaredFields()) {
            if (!Modifier.isPrivate(field.getModifiers())) {
                constants.add(field.getType() + " " + field.getName() + " " + field.get(null));
            }
        }
        due("constants", constants, new TreeSet<>(Set.of("int UNKNOWN -1", "int OUTSIDE -2", "int STATE -3",
                "int FULL -4", "int NO -5", "int NONE -6", "long GONE -1000000000000000000")));
        for (Class<?> inside : StairIdeals.class.getDeclaredClasses()) {
            due(inside + " is static", Modifier.isStatic(inside.getModifiers()), true);
            for (Method method : inside.getDeclaredMethods()) {
                due("a name of the face: " + method, names.contains(method.getName()), false);
            }
        }
        for (Method method : StairIdeals.class.getDeclaredMethods()) {
            if (Modifier.isPrivate(method.getModifiers())) {
                due("a name of the face: " + method, names.contains(method.getName()), false);
            }
        }
    }

    private static List<Class<?>> classes() {
        List<Class<?>> all = new ArrayList<>(List.of(StairIdeals.class.getDeclaredClasses()));
        all.add(StairIdeals.class);
        return all;
    }

    /** Rules 2, 3, 5 and 11, as far as fields and methods show them. */
    private static void members() {
        due("classes", classes().size() <= 12, true);
        for (Class<?> one : classes()) {
            int fields = 0;
            for (Field field : one.getDeclaredFields()) {
                boolean fixed = Modifier.isStatic(field.getModifiers());
                fields += fixed ? 0 : 1;
                due("type of " + field, fixed ? isConstant(field.getType()) : isType(field.getType()), true);
                due(field + " is final, or no static one", !fixed || Modifier.isFinal(field.getModifiers()), true);
            }
            due(one + " has few fields", fields <= 20, true);
            due(one + " has no class inside", one == StairIdeals.class || one.getDeclaredClasses().length == 0, true);
            for (Method method : one.getDeclaredMethods()) {
                due("parameters of " + method, method.getParameterCount() <= 7, true);
                due("made by the compiler: " + method, method.isSynthetic(), false);
                for (Class<?> type : method.getParameterTypes()) {
                    due("type in " + method, isType(type), true);
                }
            }
        }
    }

    private static boolean isConstant(Class<?> type) {
        return Set.of(int.class, long.class, boolean.class, char.class, String.class, int[].class, long[].class,
                char[].class, byte[].class).contains(type);
    }

    private static boolean isType(Class<?> type) {
        if (type.isArray() && type.getComponentType().isArray()) {
            return type.getComponentType().getComponentType().isPrimitive();
        }
        Class<?> single = type.isArray() ? type.getComponentType() : type;
        return single.isPrimitive() || classes().contains(single);
    }

    private static void source() throws Exception {
        String text = Files.readString(Path.of("src/main/java/StairIdeals.java"));
        for (int i = 0; i < text.length(); i++) {
            if (text.charAt(i) > 126) {
                due("sign " + i, (int) text.charAt(i), "plain");
            }
        }
        String code = text.replaceAll("(?s)/\\*.*?\\*/", "").replaceAll("//[^\n]*", "");
        Matcher match = Pattern.compile("\\b(throw|throws|try|catch|synchronized|assert|package|Exact|protected|var"
                + "|System\\.out|Random|Thread|Float|Double|Object|StringBuilder|String|equals|hashCode|toString)\\b"
                + "|->|::|Exact\\(|static \\{|while \\(true\\)|for \\(;|; ;")
                .matcher(code);
        while (match.find()) {
            due("a word that the rules leave out", match.group(), "nothing");
        }
        Matcher imports = Pattern.compile("import ([^;]*);").matcher(code);
        while (imports.find()) {
            due("import", imports.group(1), "java.util.Arrays");
        }
        String[] lines = code.split("\n");
        int start = -1;
        for (int n = 0; n < lines.length; n++) {
            if (lines[n].matches("( {4}| {8})(public|private|static|final|[a-zA-Z\\[\\]]+) .*\\{")
                    && !lines[n].contains(" class ")) {
                start = n;
            } else if (lines[n].matches(" {4}\\}| {8}\\}") && start >= 0) {
                due("lines of the method at " + lines[start], n - start <= 60, true);
                start = -1;
            }
        }
    }

    private static void say(StairIdeals x, String text) {
        for (int i = 0; i < text.length(); i++) {
            x.say(text.charAt(i));
        }
    }

    /** An object that is made anew when it has got all the calls that it may get. */
    private static final class Run {
        private final int state;
        private StairIdeals object;
        private int calls = MOST_CALLS;

        Run(int state) {
            this.state = state;
        }

        StairIdeals call() {
            if (calls == MOST_CALLS) {
                calls = 0;
                object = new StairIdeals();
                begin();
            }
            calls++;
            return object;
        }

        private void list(String text) {
            say(object, text);
            calls += text.length();
        }

        private void load(int ideal, String text) {
            list(text);
            call().load(ideal);
        }

        private void begin() {
            if (state == 1) {
                load(0, "a6,b6,c6,d6,abcd,a3b3,c3d3");
                load(1, "1");
                load(2, "a,b,c,d");
                call().hold(0, 0, 0, false);
                call().hold(1, 1, 1, true);
                call().hold(2, 2, 2, true);
                call().image(0);
            } else if (state == 2) {
                list("a".repeat(60));
                call().image(1);
            } else if (state == 3) {
                load(0, "a,b,c,d");
                call().make(2, 0, 0, 1);
                call().make(2, 1, 1, 2);
                list("a,");
            }
        }
    }

    /** Rule 7: no call may ever throw or fail to end, for any arguments in any state. */
    private static void anyArguments() throws Exception {
        for (Method method : StairIdeals.class.getDeclaredMethods()) {
            for (int state = 0; state < 4 && Modifier.isPublic(method.getModifiers()); state++) {
                tryAll(new Run(state), method, new Object[method.getParameterCount()], 0);
            }
        }
    }

    private static void tryAll(Run x, Method method, Object[] arguments, int at) throws Exception {
        if (at == arguments.length) {
            try {
                method.invoke(x.call(), arguments);
            } catch (java.lang.reflect.InvocationTargetException e) {
                due(method + " with " + java.util.Arrays.toString(arguments), e.getCause(), "an answer");
            }
            return;
        }
        if (method.getParameterTypes()[at] == boolean.class) {
            arguments[at] = true;
            tryAll(x, method, arguments, at + 1);
            arguments[at] = false;
            tryAll(x, method, arguments, at + 1);
            return;
        }
        for (int extreme : EXTREMES) {
            arguments[at] = extreme;
            tryAll(x, method, arguments, at + 1);
        }
    }

    // ---- what the compiler has made of the class

    /** Rules 4, 6, 8 and 11: which methods call which, and that none throws or catches. */
    private static void compiled() throws Exception {
        Map<String, Set<String>> calls = new HashMap<>();
        Set<String> outside = new TreeSet<>();
        for (Class<?> one : classes()) {
            try (InputStream in = one.getResourceAsStream("/" + one.getName() + ".class")) {
                new ClassFile(new DataInputStream(in)).addCalls(calls);
            }
        }
        for (Set<String> called : calls.values()) {
            for (String name : called) {
                if (!name.startsWith("StairIdeals")) {
                    outside.add(name);
                }
            }
        }
        outside.removeAll(LIBRARY);
        due("used of the library, and not looked up in rule 4 yet", outside, new TreeSet<>());
        due("methods were read", calls.containsKey("StairIdeals.told"), true);
        for (String name : calls.keySet()) {
            due("calls in one another from " + name, deep(name, calls, new ArrayList<>()) <= MOST_DEEP, true);
        }
    }

    /** A method that calls itself counts once; any other ring of calls is told. */
    private static int deep(String name, Map<String, Set<String>> calls, List<String> open) {
        int most = 0;
        open.add(name);
        for (String next : calls.getOrDefault(name, Set.of())) {
            if (!open.contains(next)) {
                most = Math.max(most, deep(next, calls, open));
            } else if (!next.equals(name)) {
                due("methods call one another", open + " " + next, "none");
            }
        }
        open.remove(open.size() - 1);
        return most + 1;
    }

    /** Reads just what is needed of a class file: constants, and the calls of each method. */
    private static final class ClassFile {
        private final DataInputStream in;
        private final Object[] constants;

        ClassFile(DataInputStream in) throws IOException {
            this.in = in;
            in.skipNBytes(8);
            constants = new Object[in.readUnsignedShort()];
            for (int n = 1; n < constants.length; n++) {
                int tag = in.readUnsignedByte();
                constants[n] = readConstant(tag);
                n += tag == 5 || tag == 6 ? 1 : 0;
            }
        }

        private Object readConstant(int tag) throws IOException {
            switch (tag) {
                case 1:
                    return in.readUTF();
                case 7: case 8: case 16: case 19: case 20:
                    return new int[] {in.readUnsignedShort()};
                case 3: case 4:
                    return in.readInt();
                case 5: case 6:
                    return in.readLong();
                case 9: case 10: case 11: case 12:
                    return new int[] {in.readUnsignedShort(), in.readUnsignedShort()};
                default:
                    due("a constant for lambdas and their like", tag, "none");
                    throw new IOException("constant " + tag);
            }
        }

        private String text(int at, int... path) {
            Object found = constants[at];
            for (int step : path) {
                found = constants[((int[]) found)[step]];
            }
            return (String) found;
        }

        void addCalls(Map<String, Set<String>> calls) throws IOException {
            in.skipNBytes(2);
            String own = text(in.readUnsignedShort(), 0);
            in.skipNBytes(2);
            in.skipNBytes(2L * in.readUnsignedShort());
            readMembers(own, null);
            readMembers(own, calls);
        }

        private void readMembers(String own, Map<String, Set<String>> calls) throws IOException {
            int members = in.readUnsignedShort();
            for (int n = 0; n < members; n++) {
                in.skipNBytes(2);
                String name = own + "." + text(in.readUnsignedShort());
                in.skipNBytes(2);
                int attributes = in.readUnsignedShort();
                for (int k = 0; k < attributes; k++) {
                    boolean isCode = text(in.readUnsignedShort()).equals("Code");
                    byte[] bytes = in.readNBytes(in.readInt());
                    if (isCode) {
                        readCode(name, bytes, calls.computeIfAbsent(name, m -> new TreeSet<>()));
                    }
                }
            }
        }

        private static int number(byte[] bytes, int at, int length) {
            int value = 0;
            for (int n = 0; n < length; n++) {
                value = value << 8 | bytes[at + n] & 255;
            }
            return value;
        }

        private void readCode(String name, byte[] bytes, Set<String> called) {
            int end = 8 + number(bytes, 4, 4);
            due("what is caught in " + name, number(bytes, end, 2), 0);
            int at = 8;
            while (at < end) {
                int code = bytes[at] & 255;
                due("throw or synchronized in " + name, code == 191 || code == 194 || code == 195, false);
                if (code >= 182 && code <= 185) {
                    int method = number(bytes, at + 1, 2);
                    called.add(text(method, 0, 0) + "." + text(method, 1, 0));
                }
                at += length(bytes, at, code);
            }
            due("the end of " + name, at, end);
        }

        private static int length(byte[] bytes, int at, int code) {
            int table = 8 + ((at - 8) / 4 + 1) * 4;
            if (code == 170) {
                return table + 12 + 4 * (number(bytes, table + 8, 4) - number(bytes, table + 4, 4) + 1) - at;
            }
            if (code == 171) {
                return table + 8 + 8 * number(bytes, table + 4, 4) - at;
            }
            if (code == 196) {
                return (bytes[at + 1] & 255) == 132 ? 6 : 4;
            }
            if (code >= 153 && code <= 168 || code >= 178 && code <= 184 || code == 17 || code == 19 || code == 20
                    || code == 132 || code == 187 || code == 189 || code == 192 || code == 193 || code == 198
                    || code == 199) {
                return 3;
            }
            if (code == 185 || code == 186 || code == 200 || code == 201) {
                return 5;
            }
            if (code == 197) {
                return 4;
            }
            return code == 16 || code == 18 || code >= 21 && code <= 25 || code >= 54 && code <= 58 || code == 169
                    || code == 188 ? 2 : 1;
        }
    }

    /** A new object and its 512 calls must take but little of the room that all runs share. */
    private static void room() {
        com.sun.management.ThreadMXBean bean = (com.sun.management.ThreadMXBean) ManagementFactory.getThreadMXBean();
        for (int turn = 0; turn < 2; turn++) {
            long before = bean.getThreadAllocatedBytes(Thread.currentThread().getId());
            StairIdeals x = new StairIdeals();
            for (int sign : new int[] {'a', '2', ',', 'b', 'c', ',', 'd', '3', ',', 'a', 'c', 'd'}) {
                x.say(sign);
            }
            x.load(0);
            for (int n = 0; n < 25; n++) {
                x.make(n % 5, n & 3, n >> 2 & 3, n >> 1 & 3);
                x.compare(0, 1);
                x.part(0, n);
                x.prime(0, n);
                x.primary(0, 15, 1);
                x.dual(0, 6666, 2);
                x.count(0, n);
                x.series(0, n);
                x.facts(0, n % 5);
                x.betti(0, n % 4);
                x.bettiAt(0, n % 4, 1111);
                x.share(0, n, n % 3);
                x.hold(2, n % 4, 0, n % 2 == 0);
                x.take(2, n % 4, 3);
                x.measure(2, n % 4);
                x.image(n % 2);
                x.restore(n % 2);
            }
            long taken = bean.getThreadAllocatedBytes(Thread.currentThread().getId()) - before;
            due("room taken by a run: " + taken, taken < 64000, true);
        }
    }
}
