import java.util.ArrayList;
import java.util.Arrays;
import java.util.HashMap;
import java.util.List;
import java.util.Map;

/**
 * Each sentence of the document that names an edge, by itself: the last that is taken and the first that is not, the
 * empty and the full, each refusal alone and two at once. Behind each refused call all that can be seen of the object
 * is laid beside that of a twin which never got the call. No object gets more calls than the document allows.
 */
public final class EdgesTest {
    private static final int UNKNOWN = -1, OUTSIDE = -2, STATE = -3, FULL = -4, NO = -5, NONE = -6;
    private static final int SERIES = -1000000;
    private static final long GONE = -1000000000000000000L;
    private static final int LEAST = Integer.MIN_VALUE, MOST = Integer.MAX_VALUE;
    private static final int MOST_CALLS = 512;
    private static final int[] NO_CODES = {-1, 7, 9, 17, 67, 70, 76, 167, 607, 667, 670, 700, 760, 999, 1007, 6067,
        6607, 6667, 6670, 6676, 6700, 6766, 7000, 7666, 9999, 10000, 10001, 16666, 66666, 65536, 1000000, 65536 + 1111,
        -2, -7, -1000, -1111, -6666, 1 << 30, LEAST, LEAST + 1, LEAST + 1111, MOST - 1, MOST};
    private static final String SIXTY = "a2b,b2c,c2d,d2a,a3c,b3d,c3a,d3b,a4d,b4a,c4b,d4c,a5,bb5,c5,d6";

    private static String sentence = "";
    private static int wrong = 0;
    private static int compared = 0;

    /** A call, as the tables below have it. */
    private interface Call {
        long on(Run x);
    }

    /** Makes the same object each time. */
    private interface Maker {
        Run make();
    }

    /** An object, with a count of its calls. */
    private static final class Run {
        private final StairIdeals object = new StairIdeals();
        private int calls = 0;

        StairIdeals call() {
            calls++;
            if (calls == MOST_CALLS + 1) {
                due("calls of one object, of which later ones are free", calls, MOST_CALLS);
            }
            return object;
        }

        Run say(String text) {
            for (int i = 0; i < text.length(); i++) {
                call().say(text.charAt(i));
            }
            return this;
        }

        Run load(int ideal, String text) {
            call().wipe();
            say(text);
            call().load(ideal);
            return this;
        }

        Run make(int... steps) {
            for (int i = 0; i + 3 < steps.length; i += 4) {
                call().make(steps[i], steps[i + 1], steps[i + 2], steps[i + 3]);
            }
            return this;
        }

        List<Integer> generators(int ideal) {
            List<Integer> out = new ArrayList<>();
            int size = call().generator(ideal, -1);
            for (int i = 0; i < size; i++) {
                out.add(call().generator(ideal, i));
            }
            return out;
        }
    }

    public static void main(String[] args) {
        signs();
        lists();
        loading();
        codes();
        indices();
        making();
        forty();
        comparing();
        parts();
        primes();
        duals();
        degrees();
        facts();
        holes();
        shares();
        shelves();
        images();
        telling();
        newObjects();
        formerStates();
        refusals();
        lastCall();
        if (compared == 0) {
            due("twins that were compared", 0, 1);
        }
        System.out.println(wrong == 0 ? "EdgesTest: all answers are as due" : wrong + " answers are not as due");
        if (wrong != 0) {
            System.exit(1);
        }
    }

    private static void due(String call, long got, long want) {
        if (got != want) {
            wrong++;
            System.out.println("\"" + sentence + "\": " + call + " answered " + got + ", due is " + want);
        }
    }

    private static void due(String call, List<Integer> got, Integer... want) {
        if (!got.equals(Arrays.asList(want))) {
            wrong++;
            System.out.println("\"" + sentence + "\": " + call + " is " + got + ", due is " + Arrays.asList(want));
        }
    }

    private static Run with(String... lists) {
        Run x = new Run();
        for (int i = 0; i < lists.length; i++) {
            x.load(i, lists[i]);
        }
        return x;
    }

    private static String times(String text, int n) {
        return text.repeat(n);
    }

    /** Numbers that are not low to high: those next to it, the least, the greatest, and such as wrap around to it. */
    private static int[] besides(int low, int high) {
        return new int[] {low - 1, high + 1, low - 2, high + 2, LEAST, LEAST + 1, MOST, MOST - 1, low + (1 << 8),
            high + (1 << 16), low + (1 << 30), high + LEAST, low - (1 << 8), high - (1 << 16)};
    }

    // ---- what can be seen of an object

    /** Looks at all that calls can tell; what was said and the ideals are lost by it. */
    private static List<Long> everything(Run x) {
        List<Long> out = new ArrayList<>();
        out.add((long) x.call().told(0));
        out.add((long) x.call().fault());
        addHoldings(x, out);
        out.add((long) x.call().load(0));
        addGenerators(x, 0, out);
        for (int k = 0; k < 2; k++) {
            out.add((long) x.call().restore(k));
            if (out.get(out.size() - 1) == 1) {
                addHoldings(x, out);
            }
        }
        out.add((long) x.call().wipe());
        return out;
    }

    private static void addGenerators(Run x, int ideal, List<Long> out) {
        int size = x.call().generator(ideal, -1);
        out.add((long) size);
        for (int i = 0; i < size; i++) {
            out.add((long) x.call().generator(ideal, i));
        }
    }

    private static void addHoldings(Run x, List<Long> out) {
        for (int ideal = 0; ideal < 4; ideal++) {
            addGenerators(x, ideal, out);
        }
        for (int shelf = 0; shelf < 3; shelf++) {
            for (int place = 0; place < 4; place++) {
                int kind = x.call().told(20 + 10 * shelf + place);
                out.add((long) kind);
                if (kind != 0) {
                    out.add((long) x.call().measure(shelf, place));
                }
                if (kind == 1) {
                    out.add((long) x.call().take(shelf, place, 3));
                    addGenerators(x, 3, out);
                }
            }
        }
    }

    private static final Map<Maker, List<Long>> twins = new HashMap<>();

    /** The call is refused, and the object is then as its twin is. */
    private static void refused(Maker maker, String name, long want, Call call) {
        Run x = maker.make();
        due(name, call.on(x), want);
        compared++;
        if (!everything(x).equals(twins.computeIfAbsent(maker, m -> everything(m.make())))) {
            wrong++;
            System.out.println("\"" + sentence + "\": " + name + " is refused, but has changed something");
        }
    }

    // ---- objects to be refused by

    private static Run furnished() {
        Run x = with("d2,c", "ab", "", "1");
        x.call().hold(0, 1, 0, false);
        x.call().hold(2, 3, 1, true);
        x.call().image(0);
        x.load(0, "a2,ab,b3").load(1, "a4,c,d").load(2, "1").load(3, "a,b,c2,d2");
        x.call().hold(0, 0, 1, false);
        x.call().hold(0, 1, 3, false);
        x.call().hold(1, 0, 3, true);
        x.call().hold(1, 2, 0, true);
        x.call().hold(2, 0, 0, false);
        x.call().hold(2, 1, 3, true);
        return x.say("a,b2");
    }

    private static final Maker FURNISHED = EdgesTest::furnished;
    private static final Maker MORE_MUST_COME = () -> furnished().say(",");
    private static final Maker CAN_NOT_STAND = () -> furnished().say("x");
    private static final Maker FULL_PAD = () -> furnished().say(times(",b2", 18) + ",d");
    private static final Maker FULL_AND_FAULTY = () -> furnished().say(times(",b", 27) + "b,");
    private static final Maker NEW = Run::new;

    // ---- "Terms", 1: signs and lists

    private static void signs() {
        sentence = "a PAD of up to 60 signs (codes 33 to 126)";
        Run x = new Run();
        for (int sign = 33; sign <= 126; sign++) {
            int at = (sign - 33) % 60;
            due("say(" + sign + ")", x.call().say(sign), at + 1);
            if (at == 59) {
                due("wipe() of 60", x.call().wipe(), 60);
            }
        }
        for (int sign : besides(33, 126)) {
            due("say(" + sign + ")", x.call().say(sign), OUTSIDE);
            due("told(0)", x.call().told(0), 34);
        }
        due("say(97)", x.call().say(97), 35);
        sentence = "A sign more: how many. OUTSIDE; FULL.";
        x = new Run();
        for (int n = 1; n <= 60; n++) {
            due("say(97)", x.call().say(97), n);
        }
        for (int sign = 33; sign <= 126; sign++) {
            due("say(" + sign + ") to 60", x.call().say(sign), FULL);
        }
        due("told(0)", x.call().told(0), 60);
        sentence = "Signs go: how many there were.";
        due("wipe() of 60", x.call().wipe(), 60);
        due("wipe() of none", x.call().wipe(), 0);
        due("told(0)", x.call().told(0), 0);
        due("fault()", x.call().fault(), NONE);
        due("say(97) then", x.call().say(97), 1);
        due("wipe() of one", x.call().wipe(), 1);
        x.say(times("a,", 29) + "a");
        due("wipe() of 59", x.call().wipe(), 59);
        sentence = "the PAD is empty then";
        x = new Run().say(SIXTY);
        due("signs", x.call().told(0), 60);
        due("load(0)", x.call().load(0), 16);
        due("told(0)", x.call().told(0), 0);
        for (int n = 1; n <= 60; n++) {
            due("say(97)", x.call().say(97), n);
        }
        due("say(97)", x.call().say(97), FULL);
    }

    private static int faultOf(String text) {
        return new Run().say(text).call().fault();
    }

    private static void lists() {
        sentence = "none at all";
        due("fault()", new Run().call().fault(), NONE);
        due("load(0)", with("a").call().load(0), 0);
        for (int v = 0; v < 4; v++) {
            signsThatCanStand(v);
        }
        sentence = "MONOMIALS, parted by ,";
        canStand("", "1abcd");
        canStand("1,", "1abcd");
        canStand("a,b,", "1abcd");
        canStand("1", ",");
        canStand("a,1", ",");
        canStand("1,1", ",");
        sentence = "the place (from 0 on) of the first sign that can not stand there";
        due("fault() of the first", faultOf("x"), 0);
        due("fault() of the first", faultOf("x" + times("a", 59)), 0);
        due("fault() of the first of two", faultOf("a,xb,x"), 2);
        due("fault() of the first of two", faultOf(",,"), 0);
        due("fault() before what must come", faultOf("a7,"), 1);
        due("fault() of the 60th", faultOf(times("a,", 29) + "a0"), 59);
        due("fault() of the 60th", faultOf(times("ab,", 19) + "abx"), 59);
        sentence = "or the number of signs, if more must come";
        due("fault()", faultOf("1,"), 2);
        due("fault()", faultOf("d6,"), 3);
        due("fault() of 59", faultOf(times("a,", 28) + "ab,"), 59);
        due("fault() of 60", faultOf(times("a,", 30)), 60);
        due("load(0) of 60", new Run().say(times("a,", 30)).call().load(0), NO);
        sentence = "THE FAULT; NONE.";
        due("fault() of 60", faultOf(SIXTY), NONE);
        due("fault() of 59", faultOf(times("1,", 29) + "1"), NONE);
        Run x = new Run().say("a,");
        due("fault()", x.call().fault(), 2);
        due("fault() again", x.call().fault(), 2);
        due("told(0)", x.call().told(0), 2);
    }

    /** With the variable in the place of a, b, c, d in turn. */
    private static void signsThatCanStand(int v) {
        String letters = "abcd".substring(v) + "abcd".substring(0, v);
        char a = letters.charAt(0);
        String others = letters.substring(1);
        sentence = "which may have a figure 1 to 6 behind it";
        canStand("" + a, a + others + ",123456");
        canStand(a + "1", a + others + ",");
        canStand(a + "2", a + others + ",");
        canStand(a + "5", a + others + ",");
        sentence = "no exponent is above 6 with any sign";
        canStand(a + "6", others + ",");
        canStand(times("" + a, 4), a + others + ",123");
        canStand(times("" + a, 5), a + others + ",12");
        canStand(times("" + a, 6), others + ",1");
        canStand(times("" + a, 6) + "1", others + ",");
        canStand(times(a + "2", 3), others + ",");
        canStand(a + "1" + a + "5", others + ",");
        canStand(a + "5" + others + a, others + ",1");
        canStand(a + "6" + others, others + ",123456");
        canStand(letters.charAt(0) + "6" + letters.charAt(1) + "6" + letters.charAt(2) + "6" + letters.charAt(3) + "6",
                ",");
        canStand(a + "6,", a + others + "1");
        canStand(a + "6," + a, a + others + ",123456");
        sentence = "the figure tells all of its letter together";
        canStand(a + "5" + a, others + ",1");
        canStand(a + "4" + a, a + others + ",12");
        canStand(a + "3" + a, a + others + ",123");
        canStand(a + "1" + a, a + others + ",12345");
    }

    private static void canStand(String before, String signs) {
        for (int sign = 33; sign <= 126; sign++) {
            String text = before + (char) sign;
            int want = signs.indexOf(sign) < 0 ? before.length() : sign == ',' ? text.length() : NONE;
            due("fault() of " + text, faultOf(text), want);
        }
    }

    // ---- "Terms", 1: ideals

    private static void loading() {
        sentence = "An IDEAL is that of the LIST: how many GENERATORS it has";
        for (int ideal = 0; ideal < 4; ideal++) {
            Run x = with("a", "a", "a", "a").say("b,c2,b3");
            due("load(" + ideal + ")", x.call().load(ideal), 2);
            for (int k = 0; k < 4; k++) {
                due("ideal " + k, x.generators(k), k == ideal ? new Integer[] {20, 100} : new Integer[] {1000});
            }
        }
        sentence = "GENERATORS are the fewest by which it is so, by CODES, rising";
        due("of 60 signs", with(SIXTY).generators(0), 6, 14, 21, 50, 103, 140, 210, 301, 600, 1002, 1030, 1400, 2100,
                3010, 4001, 5000);
        due("each once", with(times("d6,", 14) + "d6").generators(0), 6);
        due("the last one divides all", with("a6b6c6d6,a6b6c6,a6b6,a6,a5,a").generators(0), 1000);
        due("the first one divides all", with("a,a5,a6,a6b6,a6b6c6,a6b6c6d6").generators(0), 1000);
        due("none divides another", with("a,b,c,d").generators(0), 1, 10, 100, 1000);
        due("thirty", with(times("1,", 29) + "1").generators(0), 0);
        due("thirty", with(times("a,b,c,", 9) + "a,b,d").generators(0), 1, 10, 100, 1000);
        sentence = "1 (all exponents are 0)";
        due("1", with("1").generators(0), 0);
        due("1 behind others", with("a,b6,1").generators(0), 0);
        sentence = "A MONOMIAL has an exponent 0 to 6 of each";
        due("the highest", with("a6b6c6d6").generators(0), 6666);
        due("by letters alone", with("aaaaaabbbbbbccccccdddddd").generators(0), 6666);
        due("in any order", with("d6a5c1b2a1").generators(0), 6216);
        sentence = "none, at first: nothing is in it; 0 alone: all is";
        Run x = with("", "1");
        due("generator(0, -1)", x.call().generator(0, -1), 0);
        due("generator(1, -1)", x.call().generator(1, -1), 1);
        due("generator(1, 0)", x.call().generator(1, 0), 0);
        for (int code : new int[] {0, 1, 10, 100, 1000, 6666}) {
            due("has(0, " + code + ")", x.call().has(0, code), 0);
            due("has(1, " + code + ")", x.call().has(1, code), 1);
        }
        sentence = "with any exponents, also above 6";
        x = with("a", "a6b6c6d6");
        due("count(0, 60)", x.call().count(0, 60), 62 * 61 / 2);
        due("count(1, 60)", x.call().count(1, 60), 63 * 62 * 61 / 6 - 39 * 38 * 37 / 6);
    }

    private static boolean isCode(int code) {
        return code >= 0 && code <= 9999 && code / 1000 < 7 && code / 100 % 10 < 7 && code / 10 % 10 < 7
                && code % 10 < 7;
    }

    private static void codes() {
        sentence = "Whether a MONOMIAL is in it (1, 0). UNKNOWN; OUTSIDE: no CODE.";
        Run x = null;
        for (int code = -100; code <= 10100; code++) {
            if (x == null || x.calls > 500) {
                x = with("a3b2,c5,d6");
            }
            boolean in = code / 1000 >= 3 && code / 100 % 10 >= 2 || code / 10 % 10 >= 5 || code % 10 >= 6;
            due("has(0, " + code + ")", x.call().has(0, code), isCode(code) ? in ? 1 : 0 : OUTSIDE);
        }
        sentence = "One DIVIDES another one, if each of its exponents is no greater";
        for (int v = 0; v < 4; v++) {
            int one = new int[] {1000, 100, 10, 1}[v];
            x = with("a2b2c2d2");
            due("has the same", x.call().has(0, 2222), 1);
            due("has one less", x.call().has(0, 2222 - one), 0);
            due("has one more", x.call().has(0, 2222 + one), 1);
            due("has less of one, more of others", x.call().has(0, 6666 - 5 * one), 0);
        }
    }

    private static void indices() {
        sentence = "How many GENERATORS (i = -1), the i-th; NONE. UNKNOWN.";
        Run x = fortyByProduct();
        due("product of 40", x.call().make(2, 1, 0, 3), 40);
        int before = -1;
        for (int i = 0; i < 40; i++) {
            int code = x.call().generator(3, i);
            due("generator(3, " + i + ") is higher", code > before ? 1 : 0, 1);
            before = code;
        }
        due("generator(3, -1)", x.call().generator(3, -1), 40);
        for (int i : besides(-1, 39)) {
            due("generator(3, " + i + ")", x.call().generator(3, i), NONE);
        }
        x = with("a,b", "", "1");
        int[] sizes = {2, 0, 1, 0};
        for (int k = 0; k < 4; k++) {
            due("generator(k, -1)", x.call().generator(k, -1), sizes[k]);
            for (int i : besides(-1, sizes[k] - 1)) {
                due("generator(" + k + ", " + i + ")", x.call().generator(k, i), NONE);
            }
        }
    }

    // ---- "Terms", 2

    private static void making() {
        sentence = "What K and J make is IDEAL to then (how 0 to 4)";
        // of nothing, all, a2b: each with each
        String[] lists = {"", "1", "a2b"};
        int[][] due = {
            {-1, 0, 2100, 0, 0, 0, 2100, 0, 2100}, {-1, -1, -1, -1, 0, 2100, -1, 2100, 2100},
            {-1, -1, -1, -1, 0, 2100, -1, 2100, 4200}, {0, -1, -1, 0, 0, 0, 0, 2100, 0},
            {-1, -1, -1, 0, 0, 0, 1100, 1100, 1100}};
        for (int how = 0; how < 5; how++) {
            for (int pair = 0; pair < 9; pair++) {
                Run x = with(lists[pair / 3], lists[pair % 3]);
                int want = due[how][pair];
                String name = "make(" + how + ") of \"" + lists[pair / 3] + "\" and \"" + lists[pair % 3] + "\"";
                due(name, x.call().make(how, 0, 1, 2), want == -1 ? 0 : 1);
                due(name, x.generators(2), want == -1 ? new Integer[0] : new Integer[] {want});
            }
        }
        targets();
        sentence = "J is no matter, but as told";
        for (int j = 0; j < 4; j++) {
            Run x = with("a2b,c3", "1", "", "a");
            due("make(4, 0, " + j + ", 3)", x.call().make(4, 0, j, 3), 2);
            due("the radical", x.generators(3), 10, 1100);
        }
        for (int j : besides(0, 3)) {
            refused(FURNISHED, "make(4, 0, " + j + ", 3)", UNKNOWN, x -> x.call().make(4, 0, j, 3));
        }
        sentence = "RADICAL: each MONOMIAL of which some power is in K";
        Run x = with("a3,abc", "a2bcd,b6c6", "d6,ad5");
        due("radical of a3,abc", x.call().make(4, 0, 0, 3), 1);
        due("radical of a3,abc", x.generators(3), 1000);
        due("radical of a2bcd,b6c6", x.call().make(4, 1, 1, 3), 1);
        due("radical of a2bcd,b6c6", x.generators(3), 110);
        due("radical of d6,ad5", x.call().make(4, 2, 2, 3), 1);
        due("radical of d6,ad5", x.generators(3), 1);
        tooHigh();
    }

    private static void targets() {
        Integer[][] due = {{20, 100, 1000}, {120, 1100, 2000}, {120, 1100, 2020, 3000}, {100, 2000}, {100, 1000}};
        for (int how = 0; how < 5; how++) {
            for (int to = 0; to < 4; to++) {
                Run x = with("a2,b", "a,c2", "d", "d");
                due("make(" + how + ", 0, 1, " + to + ")", x.call().make(how, 0, 1, to), due[how].length);
                for (int k = 0; k < 4; k++) {
                    Integer[][] before = {{100, 2000}, {20, 1000}, {1}, {1}};
                    due("ideal " + k, x.generators(k), k == to ? due[how] : before[k]);
                }
            }
        }
        Run x = with("a2,b");
        due("make(2, 0, 0, 0)", x.call().make(2, 0, 0, 0), 3);
        due("with itself, into itself", x.generators(0), 200, 2100, 4000);
    }

    private static void tooHigh() {
        sentence = "STATE: an exponent of a GENERATOR would be above 6";
        for (int v = 0; v < 4; v++) {
            char letter = "abcd".charAt(v);
            char other = "abcd".charAt((v + 1) % 4);
            char third = "abcd".charAt((v + 2) % 4);
            int one = new int[] {1000, 100, 10, 1}[v];
            due("6", with(letter + "3").call().make(2, 0, 0, 1), 1);
            Run x = with(letter + "2", letter + "4");
            due("6", x.call().make(2, 0, 1, 2), 1);
            due("6", x.generators(2), 6 * one);
            Maker seven = () -> with(letter + "3", letter + "4");
            refused(seven, "7 of " + letter, STATE, y -> y.call().make(2, 0, 1, 2));
            refused(seven, "7 of " + letter + " into itself", STATE, y -> y.call().make(2, 0, 1, 0));
            Maker twelve = () -> with(letter + "6", letter + "6");
            refused(twelve, "12 of " + letter, STATE, y -> y.call().make(2, 0, 1, 1));
            Maker amongOthers = () -> with(letter + "6," + other, letter + "," + third);
            refused(amongOthers, "7 of " + letter + " among others", STATE, y -> y.call().make(2, 0, 1, 3));
            // the product of the first ones has 8, but is beyond that of the second ones
            x = with(letter + "4" + other + "," + letter + "2" + third,
                    letter + "4" + third + "," + letter + "2" + other);
            due("8 where it is no GENERATOR", x.call().make(2, 0, 1, 2), 3);
        }
        Maker highest = () -> with("a6b6c6d6");
        for (int how : new int[] {0, 1, 3, 4}) {
            due("make(" + how + ") of the highest", highest.make().call().make(how, 0, 0, 1), 1);
        }
        refused(highest, "product of the highest", STATE, x -> x.call().make(2, 0, 0, 0));
    }

    // ---- 40 at most

    private static Run fortyByProduct() {
        return with("d,c", "d,b,a").make(2, 0, 1, 0, 2, 0, 0, 1);
    }

    private static void forty() {
        sentence = "GENERATORS .. (40 at most; ..); FULL: more than 40";
        String[] names = {"sum", "meet", "product", "quotient"};
        Maker[] just = {
            () -> with("1", "c,b,a", "d2,cd").make(2, 1, 1, 3, 2, 3, 3, 0, 2, 3, 2, 2, 2, 3, 0, 3),
            () -> with("d,bc,a", "", "c3,b4,ad3").make(2, 0, 0, 3, 2, 3, 0, 3, 2, 3, 3, 3),
            EdgesTest::fortyByProduct,
            () -> with("d,ab", "d2,c,b2,a2").make(2, 1, 1, 3, 2, 1, 3, 3)};
        Maker[] over = {
            () -> with("c,b,a", "d2,cd,c2").make(2, 0, 0, 3, 2, 3, 0, 3, 2, 1, 3, 1, 2, 0, 3, 3, 2, 3, 0, 3),
            () -> with("d", "", "c,b,a").make(2, 2, 2, 3, 2, 3, 2, 3, 0, 3, 0, 3, 2, 3, 3, 3),
            () -> with("1", "d,c,b,a", "c").make(2, 1, 1, 3, 2, 1, 3, 1, 0, 2, 3, 3),
            () -> with("c,b,a", "d,c", "d2,b,ac2,a2").make(2, 2, 0, 3, 2, 3, 3, 3)};
        int[][] pairs = {{2, 3}, {3, 2}, {1, 0}, {3, 0}};
        int[][] overPairs = {{1, 3}, {3, 2}, {1, 3}, {3, 1}};
        for (int how = 0; how < 4; how++) {
            int[] pair = pairs[how];
            int[] overPair = overPairs[how];
            int kind = how;
            for (int to = 0; to < 4; to++) {
                int into = to;
                Run x = just[how].make();
                due(names[how] + " of 40", x.call().make(how, pair[0], pair[1], to), 40);
                due(names[how] + " of 40", x.call().told(10 + to), 40);
                refused(over[how], names[how] + " of 41", FULL,
                        y -> y.call().make(kind, overPair[0], overPair[1], into));
            }
            refused(over[how], names[how] + " of 41 into no IDEAL", UNKNOWN,
                    y -> y.call().make(kind, overPair[0], overPair[1], 4));
        }
        due("radical, most", with("ab,ac,ad,bc,bd,cd").call().make(4, 0, 0, 1), 6);
        sentence = "refused .. the first of these that fits: .. STATE, FULL";
        Maker fourth = () -> with("a,b,c,d").make(2, 0, 0, 1, 2, 1, 1, 2);
        due("all of degree 4", fourth.make().call().generator(2, -1), 35);
        refused(fourth, "degree 5", FULL, x -> x.call().make(2, 2, 0, 3));
        refused(fourth, "degree 6, exponents of 6", FULL, x -> x.call().make(2, 2, 1, 3));
        refused(fourth, "degree 8, more than 40 and too high", STATE, x -> x.call().make(2, 2, 2, 3));
        fortyOfParts();
    }

    private static void fortyOfParts() {
        sentence = "PRIMARY is IDEAL to then .. FULL.";
        Maker primary = () -> with("d2,c2,b,ac,a2", "", "bd,ac").make(2, 0, 0, 3, 0, 2, 0, 0, 2, 2, 3, 0, 2, 0, 2, 3);
        Maker primaryOver = () -> with("bd,ac,a2", "d,c2,b2,ac").make(2, 1, 0, 1, 2, 1, 1, 3);
        for (int to = 0; to < 4; to++) {
            int into = to;
            Run x = primary.make();
            due("it has", x.call().generator(3, -1), 32);
            due("primary of 40", x.call().primary(3, 15, to), 40);
            due("primary of 40", x.call().told(10 + to), 40);
            due("of 41, it has", primaryOver.make().call().generator(3, -1), 37);
            refused(primaryOver, "primary of 41", FULL, y -> y.call().primary(3, 15, into));
        }
        refused(primaryOver, "primary of 41 into no IDEAL", UNKNOWN, y -> y.call().primary(3, 15, 4));
        sentence = "DUAL is IDEAL to then .. FULL.";
        Maker dual = () -> with("", "cd,bd,bc,a").make(2, 1, 1, 3, 2, 3, 3, 3);
        Maker dualOver = () -> with("", "d,bc,ac,ab", "b").make(2, 1, 2, 3, 2, 1, 3, 3, 2, 3, 3, 3);
        for (int to = 0; to < 4; to++) {
            int into = to;
            Run x = dual.make();
            due("parts", x.call().part(3, -1), 40);
            due("dual of 40", x.call().dual(3, 6666, to), 40);
            due("dual of 40", x.call().told(10 + to), 40);
            due("parts", dualOver.make().call().part(3, -1), 41);
            refused(dualOver, "dual of 41", FULL, y -> y.call().dual(3, 6666, into));
        }
        refused(dualOver, "dual of 41 into no IDEAL", UNKNOWN, y -> y.call().dual(3, 6666, 4));
        refused(dualOver, "dual of 41 against no CODE", OUTSIDE, y -> y.call().dual(3, 6667, 0));
        refused(dualOver, "dual of 41 against what is too low", STATE, y -> y.call().dual(3, 1666, 0));
    }

    private static void comparing() {
        sentence = "0: both are one; 1: all of K is in J; 2: all of J is in K; 3: neither.";
        String[] lists = {"", "1", "a2", "a", "b", "a2,ab"};
        int[][] due = {{0, 1, 1, 1, 1, 1}, {2, 0, 2, 2, 2, 2}, {2, 1, 0, 1, 3, 1}, {2, 1, 2, 0, 3, 2},
            {2, 1, 3, 3, 0, 3}, {2, 1, 2, 1, 3, 0}};
        for (int k = 0; k < lists.length; k++) {
            for (int j = 0; j < lists.length; j++) {
                Run x = with(lists[k], "", "", lists[j]);
                due("compare \"" + lists[k] + "\" and \"" + lists[j] + "\"", x.call().compare(0, 3), due[k][j]);
                due("compare with itself", x.call().compare(3, 3), 0);
            }
        }
    }

    // ---- "Terms", 3

    private static void parts() {
        sentence = "How many PARTS (i = -1), the i-th; NONE. UNKNOWN.";
        Run x = with("", "d,bc,ac,ab", "b").make(2, 1, 2, 3, 2, 1, 3, 3, 2, 3, 3, 3);
        due("part(3, -1)", x.call().part(3, -1), 41);
        int before = -1;
        for (int i = 0; i < 41; i++) {
            int code = x.call().part(3, i);
            due("part(3, " + i + ") is higher, and a CODE", code > before && isCode(code) ? 1 : 0, 1);
            before = code;
        }
        for (int i : besides(-1, 40)) {
            due("part(3, " + i + ")", x.call().part(3, i), NONE);
        }
        sentence = "of that in which all is: none";
        x = with("1", "");
        due("part(0, -1)", x.call().part(0, -1), 0);
        due("prime(0, -1)", x.call().prime(0, -1), 0);
        for (int i : besides(-1, -1)) {
            due("part(0, " + i + ")", x.call().part(0, i), NONE);
            due("prime(0, " + i + ")", x.call().prime(0, i), NONE);
        }
        sentence = "powers of VARIABLES alone as GENERATORS (or none)";
        due("part(1, -1)", x.call().part(1, -1), 1);
        due("part(1, 0)", x.call().part(1, 0), 0);
        due("part(1, 1)", x.call().part(1, 1), NONE);
        due("prime(1, -1)", x.call().prime(1, -1), 1);
        due("prime(1, 0)", x.call().prime(1, 0), 0);
        due("prime(1, 1)", x.call().prime(1, 1), NONE);
        String[] lists = {"a", "d6", "a6,b6,c6,d6", "a,b,c,d", "b3,d"};
        int[] due = {1000, 6, 6666, 1111, 301};
        for (int n = 0; n < lists.length; n++) {
            x = with(lists[n]);
            due("part(0, -1) of " + lists[n], x.call().part(0, -1), 1);
            due("part(0, 0) of " + lists[n], x.call().part(0, 0), due[n]);
            due("part(0, 1) of " + lists[n], x.call().part(0, 1), NONE);
        }
    }

    /** Its parts are all (v to the n, for each v of a set of n): so each set but the empty one is a prime of it. */
    private static Run fifteenPrimes() {
        Run x = with("a4,b4,c4,d4,a3b3,a3c3,a3d3,b3c3,b3d3,c3d3", "a2b2c2,a2b2d2,a2c2d2,b2c2d2,abcd").make(0, 0, 1, 0);
        x.call().dual(0, 4444, 0);
        return x.load(1, "");
    }

    private static void primes() {
        sentence = "How many PRIMES (i = -1), the i-th; NONE. UNKNOWN.";
        Run x = fifteenPrimes();
        due("prime(0, -1)", x.call().prime(0, -1), 15);
        for (int i = 0; i < 15; i++) {
            due("prime(0, " + i + ")", x.call().prime(0, i), i + 1);
        }
        for (int i : besides(-1, 14)) {
            due("prime(0, " + i + ")", x.call().prime(0, i), NONE);
        }
        sentence = "those of which PARTS have powers, each once, rising";
        x = with("a2,ab,b3", "a6b6c6d6");
        due("part(0, -1)", x.call().part(0, -1), 2);
        due("prime(0, -1)", x.call().prime(0, -1), 1);
        due("prime(0, 0)", x.call().prime(0, 0), 3);
        due("prime(0, 1)", x.call().prime(0, 1), NONE);
        due("prime(1, -1)", x.call().prime(1, -1), 4);
        due("prime(1, 3)", x.call().prime(1, 3), 8);
        due("prime(1, 4)", x.call().prime(1, 4), NONE);
        sentence = "STATE: it is no PRIME of it";
        for (int prime = 1; prime < 16; prime++) {
            x = fifteenPrimes();
            due("primary(0, " + prime + ", 1)", x.call().primary(0, prime, 1), Integer.bitCount(prime));
            due("prime(1, -1)", x.call().prime(1, -1), 1);
            due("prime(1, 0)", x.call().prime(1, 0), prime);
        }
        Maker fifteen = EdgesTest::fifteenPrimes;
        for (int prime : besides(1, 15)) {
            refused(fifteen, "primary(0, " + prime + ", 1)", STATE, y -> y.call().primary(0, prime, 1));
        }
        for (int prime = -40; prime <= 70; prime++) {
            int set = prime;
            if (prime != 3) {
                refused(FURNISHED, "primary(0, " + prime + ", 3)", STATE, y -> y.call().primary(0, set, 3));
            }
            refused(FURNISHED, "primary(2, " + prime + ", 3), which has no PART", STATE,
                    y -> y.call().primary(2, set, 3));
        }
        sentence = "PRIMARY by a PRIME, of an IDEAL in which nothing is";
        x = with("", "a");
        due("primary(0, 0, 1)", x.call().primary(0, 0, 1), 0);
        due("then", x.generators(1));
        for (int prime : besides(0, 0)) {
            refused(NEW, "primary(0, " + prime + ", 1) of nothing", STATE, y -> y.call().primary(0, prime, 1));
        }
    }

    private static void duals() {
        sentence = "STATE: some GENERATOR does not DIVIDE it";
        Maker maker = () -> with("a2b,b3c4,c2d5", "d");
        due("dual against just high enough", maker.make().call().dual(0, 2345, 1), 5);
        for (int one : new int[] {1000, 100, 10, 1}) {
            refused(maker, "dual against " + (2345 - one), STATE, x -> x.call().dual(0, 2345 - one, 1));
            refused(maker, "dual into itself against " + (6666 - 5 * one), STATE,
                    x -> x.call().dual(0, 6666 - 5 * one, 0));
            due("dual against " + (2345 + one), maker.make().call().dual(0, 2345 + one, 1), 5);
        }
        due("dual against the highest", maker.make().call().dual(0, 6666, 1), 5);
        sentence = "the exponent in that MONOMIAL, and 1, less p; of others 0";
        Run x = with("a6,b,c3");
        due("dual", x.call().dual(0, 6666, 1), 1);
        due("dual", x.generators(1), 1640);
        due("dual, low", x.call().dual(0, 6130, 1), 1);
        due("dual, low", x.generators(1), 1110);
        sentence = "what is told of a DUAL where there is no PART, and where the PART has no powers";
        for (int code : new int[] {0, 1, 6666}) {
            x = with("", "1", "a", "a");
            due("dual of nothing against " + code, x.call().dual(0, code, 2), 1);
            due("dual of nothing", x.generators(2), 0);
            due("dual of all against " + code, x.call().dual(1, code, 3), 0);
            due("dual of all", x.generators(3));
        }
        sentence = "the dual of the dual is the ideal again";
        String[] lists = {"", "1", "a", "d6", "a6b6c6d6", "a6,b6,c6,d6", "a2b,b3c4,c2d5", SIXTY.substring(0, 53)};
        for (String list : lists) {
            for (int to = 0; to < 2; to++) {
                x = with(list).load(3, list);
                due("one for each PART", x.call().dual(0, 6666, to), x.call().part(3, -1));
                due("one for each GENERATOR", x.call().dual(to, 6666, 2), x.call().generator(3, -1));
                due("dual of the dual of " + list, x.call().compare(2, 3), 0);
            }
        }
    }

    // ---- "Terms", 4

    private static int ofDegree(int degree) {
        return (degree + 3) * (degree + 2) * (degree + 1) / 6;
    }

    private static void degrees() {
        sentence = "COUNT. UNKNOWN; OUTSIDE: 0 to 60.";
        Run x = with("", "1", "a6b6c6d6", "a6,b6,c6,d6");
        for (int degree = 0; degree <= 60; degree++) {
            due("count(0, " + degree + ")", x.call().count(0, degree), ofDegree(degree));
            due("count(1, " + degree + ")", x.call().count(1, degree), 0);
            int in = degree < 24 ? 0 : ofDegree(degree - 24);
            due("count(2, " + degree + ")", x.call().count(2, degree), ofDegree(degree) - in);
            int[] box = {1, 4, 10, 20, 35, 56, 80, 104, 125, 140, 146};
            int least = Math.min(degree, 20 - degree);
            due("count(3, " + degree + ")", x.call().count(3, degree), least < 0 ? 0 : box[least]);
        }
        for (int degree : besides(0, 60)) {
            refused(FURNISHED, "count(0, " + degree + ")", OUTSIDE, y -> y.call().count(0, degree));
        }
        sentence = "SERIES: the factor by a power. .. 0 to 60";
        x = with("", "1", "a6b6c6d6", "a6,b6,c6,d6");
        for (int power = 0; power <= 60; power++) {
            due("series(0, " + power + ")", x.call().series(0, power), power == 0 ? 1 : 0);
            due("series(1, " + power + ")", x.call().series(1, power), 0);
            due("series(2, " + power + ")", x.call().series(2, power), power == 0 ? 1 : power == 24 ? -1 : 0);
            int[] box = {1, -4, 6, -4, 1};
            due("series(3, " + power + ")", x.call().series(3, power),
                    power % 6 == 0 && power <= 24 ? box[power / 6] : 0);
        }
        sentence = "UNKNOWN, OUTSIDE: 0 to 60; both as - 1,000,000 and it";
        for (int power : besides(0, 60)) {
            refused(FURNISHED, "series(0, " + power + ")", -1000002, y -> y.call().series(0, power));
        }
        for (int ideal : besides(0, 3)) {
            refused(FURNISHED, "series(" + ideal + ", 0)", -1000001, y -> y.call().series(ideal, 0));
            refused(FURNISHED, "series(" + ideal + ", 61)", -1000001, y -> y.call().series(ideal, 61));
        }
    }

    private static void factsAre(String list, int... due) {
        Run x = with(list);
        for (int what = 0; what < 5; what++) {
            due("facts(0, " + what + ") of \"" + list + "\"", x.call().facts(0, what), due[what]);
        }
    }

    private static void facts() {
        sentence = "DIMENSION .. (NONE: there is no PART); SIZE .. (NONE: else; 0: there is no PART)";
        factsAre("1", NONE, 0, 0, 0, 1);
        factsAre("", 4, NONE, 0, 0, 0);
        factsAre("a6", 3, NONE, 0, 0, 1);
        factsAre("a6,b6", 2, NONE, 0, 0, 3);
        factsAre("a6,b6,c6", 1, NONE, 0, 0, 7);
        factsAre("a6,b6,c6,d6", 0, 6 * 6 * 6 * 6, 0, 0, 15);
        factsAre("a,b,c,d", 0, 1, 0, 0, 15);
        factsAre("a,b,c,d2", 0, 2, 0, 0, 15);
        sentence = "how many VARIABLES a PART at the most has no power of";
        factsAre("ab,ac,ad", 3, NONE, 1, 1, 7);
        factsAre("a2,ab,ac,ad", 3, NONE, 1, 1, 15);
        sentence = "if each two of its GENERATORS have no VARIABLE in common, a LEAF";
        factsAre("a6b6c6d6", 3, NONE, 0, 0, 1);
        factsAre("ab,cd", 2, NONE, 0, 0, 3);
        factsAre("ab,bc", 3, NONE, 1, 1, 3);
        sentence = "the VARIABLE that is in the most GENERATORS, the least of as many";
        factsAre("d3,b2d,b3", 2, NONE, 2, 2, 6);
        factsAre("bc2,b2,ac2", 2, NONE, 1, 1, 6);
        factsAre("c2d2,ad2,a2", 2, NONE, 1, 1, 6);
        factsAre("b3c4,a2b2c2,a4c4", 3, NONE, 4, 4, 6);
        sentence = "how many in one another at the most";
        factsAre("a5b6c6d6,a6b6c5d6", 3, NONE, 22, 22, 3);
        factsAre("a6,b6,c6,d6,abcd,a3b3,c3d3", 0, 473, 13, 5, 81);
        sentence = "FACTS: .. UNKNOWN; OUTSIDE.";
        for (int what : besides(0, 4)) {
            refused(FURNISHED, "facts(0, " + what + ")", OUTSIDE, x -> x.call().facts(0, what));
            refused(FURNISHED, "facts(2, " + what + ")", OUTSIDE, x -> x.call().facts(2, what));
        }
    }

    private static void bettiIs(String list, int... due) {
        Run x = with(list);
        for (int i = 0; i < 4; i++) {
            due("betti(0, " + i + ") of \"" + list + "\"", x.call().betti(0, i), due[i]);
        }
    }

    private static void holes() {
        sentence = "BETTI i (0 to 3)";
        bettiIs("", 0, 0, 0, 0);
        bettiIs("1", 1, 0, 0, 0);
        bettiIs("a6b6c6d6", 1, 0, 0, 0);
        bettiIs("a,b", 2, 1, 0, 0);
        bettiIs("a,b,c", 3, 3, 1, 0);
        bettiIs("a,b,c,d", 4, 6, 4, 1);
        bettiIs("a6,b6,c6,d6", 4, 6, 4, 1);
        for (int i : besides(0, 3)) {
            refused(FURNISHED, "betti(0, " + i + ")", OUTSIDE, x -> x.call().betti(0, i));
            refused(FURNISHED, "bettiAt(0, " + i + ", 0)", OUTSIDE, x -> x.call().bettiAt(0, i, 0));
        }
        sentence = "At any other M 0.";
        Run x = with("a2,ab,b3", "", "1", "a6,b6,c6,d6");
        int[][] rows = {{0, 0, 0, 0}, {0, 0, 1000, 0}, {0, 0, 200, 0}, {0, 0, 3000, 0}, {0, 0, 2001, 0},
            {0, 1, 2400, 0}, {1, 0, 0, 0}, {1, 0, 6666, 0}, {1, 3, 6666, 0}, {2, 0, 6666, 0}, {2, 0, 1, 0},
            {3, 3, 6665, 0}, {3, 0, 0, 0}, {3, 0, 5555, 0}};
        bettisAt(x, rows);
        sentence = "of i = 0: 1, if no single VARIABLE is a SHEET";
        bettisAt(x, new int[][] {{0, 0, 2000, 1}, {0, 0, 1100, 1}, {0, 0, 300, 1}, {0, 0, 2100, 0}, {0, 0, 2300, 0},
            {2, 0, 0, 1}, {3, 0, 6, 1}, {3, 0, 6000, 1}, {3, 0, 6006, 0}});
        sentence = "none of them is a SHEET, too; of one VARIABLE alone the SHEET of none";
        bettisAt(x, new int[][] {{0, 1, 2000, 0}, {0, 1, 2100, 1}, {0, 1, 1300, 1}, {0, 1, 2300, 0}, {2, 1, 0, 0},
            {3, 1, 6600, 1}, {3, 1, 66, 1}, {3, 1, 6660, 0}});
        sentence = "sums of SHEETS of i VARIABLES .. whose border is nothing, more than .. of i and 1";
        bettisAt(x, new int[][] {{0, 2, 2300, 0}, {3, 2, 6660, 1}, {3, 2, 666, 1}, {3, 2, 6666, 0}, {3, 3, 6666, 1},
            {3, 3, 6660, 0}, {2, 2, 0, 0}, {2, 3, 0, 0}});
        sentence = "the border of a SHEET: all SHEETS with just one of its VARIABLES less, added";
        // sheets at a2b2c2 are a, b, c, and a with b, a with c; the others have another variable in the place of a
        String[] paths = {"a2c2,abc2,ab2c", "b2c2,bac2,ba2c", "c2a2,cba2,cb2a", "d2c2,dbc2,db2c"};
        int[] codes = {2220, 2220, 2220, 222};
        for (int n = 0; n < paths.length; n++) {
            for (int i = 0; i < 4; i++) {
                due("bettiAt(0, " + i + ") of a path", with(paths[n]).call().bettiAt(0, i, codes[n]), 0);
            }
            bettiIs(paths[n], 3, 2, 0, 0);
        }
        sentence = "BETTI i at a MONOMIAL. UNKNOWN; OUTSIDE: i, no CODE.";
        for (int code : NO_CODES) {
            refused(FURNISHED, "bettiAt(0, 0, " + code + ")", OUTSIDE, y -> y.call().bettiAt(0, 0, code));
            refused(FURNISHED, "bettiAt(0, 4, " + code + ")", OUTSIDE, y -> y.call().bettiAt(0, 4, code));
        }
    }

    private static void bettisAt(Run x, int[][] rows) {
        for (int[] row : rows) {
            due("bettiAt(" + row[0] + ", " + row[1] + ", " + row[2] + ")", x.call().bettiAt(row[0], row[1], row[2]),
                    row[3]);
        }
    }

    private static void shares() {
        sentence = "SHARE: bits of the single one (what = 0; of 32, as an int is), of the double one (1), cut (2)";
        Run x = with("", "1", "a", "a2,ab,b2");
        for (int degree : new int[] {0, 1, 2, 3, 30, 59, 60}) {
            long[][] ends = {{Float.floatToIntBits(1f), Double.doubleToLongBits(1.0), 1000}, {0, 0, 0}};
            for (int what = 0; what < 3; what++) {
                due("share(0, " + degree + ", " + what + ")", x.call().share(0, degree, what), ends[0][what]);
                due("share(1, " + degree + ", " + what + ")", x.call().share(1, degree, what), ends[1][what]);
            }
        }
        due("share(2, 0, 1)", x.call().share(2, 0, 1), Double.doubleToLongBits(1.0));
        due("share(2, 60, 0)", x.call().share(2, 60, 0), Float.floatToIntBits(1891f / 39711f));
        due("share(2, 60, 1)", x.call().share(2, 60, 1), Double.doubleToLongBits(1891.0 / 39711.0));
        due("share(2, 60, 2)", x.call().share(2, 60, 2), 47);
        sentence = "the nearest single number (32 bits), or double number (64 bits)";
        due("7 of 10, which goes down", x.call().share(3, 2, 0), 0x3f333333L);
        due("7 of 10, which goes down", x.call().share(3, 2, 1), 0x3fe6666666666666L);
        Run y = with("a,b2,c2", "a,b,c", "a2", "a,b,c2");
        due("4 of 10, which goes up", y.call().share(0, 2, 0), 0x3ecccccdL);
        due("4 of 10, which goes up", y.call().share(0, 2, 1), 0x3fd999999999999aL);
        due("1 of 10, which goes up", y.call().share(1, 2, 0), 0x3dcccccdL);
        due("1 of 10, which goes up", y.call().share(1, 2, 1), 0x3fb999999999999aL);
        due("1 of 4, which is just that", y.call().share(1, 1, 0), 0x3e800000L);
        due("1 of 39711", y.call().share(1, 60, 0), Float.floatToIntBits(1f / 39711f));
        sentence = "a thousand times the single one, again the nearest single number, cut to a whole number";
        // the single number is below 0.7, and so is what it is a thousand times, before it is made single again
        due("7 of 10, cut", x.call().share(3, 2, 2), 700);
        due("9 of 10, cut", y.call().share(2, 2, 2), 900);
        due("1 of 10, cut", y.call().share(1, 2, 2), 100);
        due("1 of 35, cut", y.call().share(1, 4, 2), 28);
        due("1 of 969, cut", y.call().share(1, 16, 2), 1);
        due("1 of 1140, cut", y.call().share(1, 17, 2), 0);
        sentence = "UNKNOWN; OUTSIDE: 0 to 60, what; both as GONE and it";
        for (int degree : besides(0, 60)) {
            refused(FURNISHED, "share(0, " + degree + ", 0)", GONE + OUTSIDE, z -> z.call().share(0, degree, 0));
            refused(FURNISHED, "share(0, " + degree + ", 3)", GONE + OUTSIDE, z -> z.call().share(0, degree, 3));
            refused(FURNISHED, "share(4, " + degree + ", 3)", GONE + UNKNOWN, z -> z.call().share(4, degree, 3));
        }
        for (int what : besides(0, 2)) {
            refused(FURNISHED, "share(0, 0, " + what + ")", GONE + OUTSIDE, z -> z.call().share(0, 0, what));
            refused(FURNISHED, "share(-1, 0, " + what + ")", GONE + UNKNOWN, z -> z.call().share(-1, 0, what));
        }
        for (int ideal : besides(0, 3)) {
            refused(FURNISHED, "share(" + ideal + ", 0, 0)", GONE + UNKNOWN, z -> z.call().share(ideal, 0, 0));
        }
    }

    // ---- "Terms", 5

    private static void shelves() {
        sentence = "SHELF 0 takes IDEALS alone, 1 takes RINGS alone, 2 both";
        for (int shelf = 0; shelf < 3; shelf++) {
            for (int place = 0; place < 4; place++) {
                for (int ideal = 0; ideal < 4; ideal++) {
                    holdBoth(shelf, place, ideal);
                }
            }
        }
        replaced();
        staying();
        sentence = "of a RING how many MONOMIALS it has; NONE: no end of them";
        String[] lists = {"1", "a,b,c,d", "a6,b6,c6,d6", "a6,b6,c6", "a,b", "d", "", "a2,ab,b3,c,d2"};
        int[] due = {0, 1, 1296, NONE, NONE, NONE, NONE, 8};
        int[] sizes = {1, 4, 4, 3, 2, 1, 0, 5};
        for (int n = 0; n < lists.length; n++) {
            Run x = with(lists[n]);
            x.call().hold(1, 3, 0, true);
            x.call().hold(0, 0, 0, false);
            due("measure the RING of \"" + lists[n] + "\"", x.call().measure(1, 3), due[n]);
            due("measure the IDEAL of \"" + lists[n] + "\"", x.call().measure(0, 0), sizes[n]);
        }
        Run x = fortyByProduct();
        x.call().make(2, 1, 0, 3);
        x.call().hold(0, 3, 3, false);
        due("measure of 40", x.call().measure(0, 3), 40);
        due("take of 40", x.call().take(0, 3, 1), 40);
        due("the same 40", x.call().compare(1, 3), 0);
        sentence = "NO: the place is empty; STATE: it is a RING";
        int[][] rings = {{1, 0}, {1, 2}, {2, 1}, {2, 3}};
        for (int[] at : rings) {
            for (int ideal = 0; ideal < 4; ideal++) {
                int to = ideal;
                refused(FURNISHED, "take a RING", STATE, y -> y.call().take(at[0], at[1], to));
            }
        }
        int[][] empty = {{0, 2}, {0, 3}, {1, 1}, {1, 3}, {2, 2}};
        for (int[] at : empty) {
            refused(FURNISHED, "take of an empty place", NO, y -> y.call().take(at[0], at[1], 3));
            refused(FURNISHED, "measure of an empty place", NO, y -> y.call().measure(at[0], at[1]));
        }
    }

    private static void holdBoth(int shelf, int place, int ideal) {
        Maker maker = () -> with("a,b,c,d2", "a,b,c,d2", "a,b,c,d2", "a,b,c,d2");
        for (int kind = 1; kind <= 2; kind++) {
            boolean ring = kind == 2;
            String name = "hold(" + shelf + ", " + place + ", " + ideal + ", " + ring + ")";
            if (ring ? shelf == 0 : shelf == 1) {
                refused(maker, name, STATE, x -> x.call().hold(shelf, place, ideal, ring));
                continue;
            }
            Run x = maker.make();
            due(name, x.call().hold(shelf, place, ideal, ring), 1);
            for (int at = 0; at < 12; at++) {
                due("told of place " + at, x.call().told(20 + at / 4 * 10 + at % 4),
                        at == shelf * 4 + place ? kind : 0);
            }
            due("measure", x.call().measure(shelf, place), ring ? 2 : 4);
            due("take", x.call().take(shelf, place, 3 - ideal), ring ? STATE : 4);
        }
    }

    private static void replaced() {
        sentence = "An IDEAL, or its RING, is held: 1.";
        Run x = with("a", "a,b", "a,b,c,d");
        due("hold an IDEAL", x.call().hold(2, 0, 0, false), 1);
        due("another over it", x.call().hold(2, 0, 1, false), 1);
        due("measure", x.call().measure(2, 0), 2);
        due("a RING over it", x.call().hold(2, 0, 2, true), 1);
        due("told(40)", x.call().told(40), 2);
        due("measure", x.call().measure(2, 0), 1);
        due("an IDEAL over it", x.call().hold(2, 0, 0, false), 1);
        due("told(40)", x.call().told(40), 1);
        due("measure", x.call().measure(2, 0), 1);
        due("nothing over it, which is an IDEAL, too", x.call().hold(2, 0, 3, false), 1);
        due("told(40)", x.call().told(40), 1);
        due("measure", x.call().measure(2, 0), 0);
        due("take", x.call().take(2, 0, 0), 0);
        due("then", x.generators(0));
    }

    private static void staying() {
        sentence = "What is held stays as it is, whatever becomes of the IDEAL";
        Call[] changes = {x -> x.say("b").call().load(0), x -> x.call().load(0), x -> x.call().make(0, 1, 1, 0),
            x -> x.call().make(4, 0, 0, 0), x -> x.call().primary(0, 15, 0), x -> x.call().dual(0, 6666, 0),
            x -> x.call().take(2, 2, 0), x -> x.call().hold(2, 3, 0, true)};
        for (int n = 0; n < changes.length; n++) {
            Run x = with("a3,ab,b2,c,d", "1");
            x.call().hold(0, 0, 0, false);
            x.call().hold(1, 0, 0, true);
            x.call().hold(2, 0, 0, false);
            x.call().hold(2, 1, 0, true);
            x.call().hold(2, 2, 1, false);
            changes[n].on(x);
            due("the IDEAL behind change " + n, x.call().measure(0, 0), 5);
            due("the RING behind change " + n, x.call().measure(1, 0), 4);
            due("the RING behind change " + n, x.call().measure(2, 1), 4);
            due("take", x.call().take(0, 0, 3), 5);
            due("what is taken behind change " + n, x.generators(3), 1, 10, 200, 1100, 3000);
            due("make of what was taken", x.call().make(4, 3, 3, 3), 4);
            due("take again", x.call().take(0, 0, 2), 5);
            due("take again", x.generators(2), 1, 10, 200, 1100, 3000);
            due("take the other", x.call().take(2, 0, 2), 5);
            due("take the other", x.generators(2), 1, 10, 200, 1100, 3000);
        }
    }

    private static void images() {
        sentence = "All but the PAD is kept in an IMAGE (0, 1): 1.";
        for (int k = 0; k < 2; k++) {
            Run x = with("a", "", "1", "b,c").say("c,d2");
            x.call().hold(0, 3, 0, false);
            x.call().hold(1, 0, 3, true);
            due("image(" + k + ")", x.call().image(k), 1);
            due("the PAD", x.call().told(0), 4);
            due("the other one was not kept", x.call().restore(1 - k), STATE);
            due("load(0)", x.call().load(0), 2);
            x.load(1, "d").load(2, "").load(3, "a,b,c,d");
            x.call().hold(0, 3, 1, false);
            x.call().hold(0, 2, 1, false);
            x.call().hold(1, 0, 3, true);
            x.call().hold(2, 0, 3, true);
            x.say("b");
            sentence = "It is as it was when it was kept: 1.";
            due("restore(" + k + ")", x.call().restore(k), 1);
            due("the PAD is no part of it", x.call().told(0), 1);
            due("IDEAL 0", x.generators(0), 1000);
            due("IDEAL 1", x.generators(1));
            due("IDEAL 2", x.generators(2), 0);
            due("IDEAL 3", x.generators(3), 10, 100);
            int[] kinds = {0, 0, 0, 1, 2, 0, 0, 0, 0, 0, 0, 0};
            for (int at = 0; at < 12; at++) {
                due("place " + at, x.call().told(20 + at / 4 * 10 + at % 4), kinds[at]);
            }
            due("take", x.call().take(0, 3, 1), 1);
            due("what was held", x.generators(1), 1000);
            due("measure", x.call().measure(1, 0), NONE);
            due("the sign is on the PAD still", x.call().load(1), 1);
            due("the sign is on the PAD still", x.generators(1), 100);
            due("the other one was not kept", x.call().restore(1 - k), STATE);
            due("restore(" + k + ") again", x.call().restore(k), 1);
            due("IDEAL 1 again", x.generators(1));
        }
        newImages();
        sentence = "OUTSIDE; STATE: it was not.";
        for (int k : besides(0, 1)) {
            refused(FURNISHED, "image(" + k + ")", OUTSIDE, x -> x.call().image(k));
            refused(FURNISHED, "restore(" + k + ")", OUTSIDE, x -> x.call().restore(k));
            refused(NEW, "restore(" + k + ")", OUTSIDE, x -> x.call().restore(k));
        }
        refused(FURNISHED, "restore(1), which was not kept", STATE, x -> x.call().restore(1));
        refused(NEW, "restore(0), which was not kept", STATE, x -> x.call().restore(0));
        refused(NEW, "restore(1), which was not kept", STATE, x -> x.call().restore(1));
    }

    private static void newImages() {
        sentence = "It is as it was when it was kept: of a new object";
        Run x = new Run();
        due("image(1)", x.call().image(1), 1);
        x.load(0, "a").call().hold(0, 0, 0, false);
        due("restore(1)", x.call().restore(1), 1);
        due("IDEAL 0", x.generators(0));
        due("told(20)", x.call().told(20), 0);
        sentence = "It is as it was when it was kept: the last time";
        x.load(0, "a");
        due("image(0)", x.call().image(0), 1);
        x.load(0, "b");
        due("image(0) anew", x.call().image(0), 1);
        x.load(0, "c");
        due("restore(0)", x.call().restore(0), 1);
        due("IDEAL 0", x.generators(0), 100);
        due("restore(1)", x.call().restore(1), 1);
        due("IDEAL 0", x.generators(0));
        due("restore(0)", x.call().restore(0), 1);
        due("IDEAL 0", x.generators(0), 100);
    }

    private static void telling() {
        sentence = "0 signs; 10 and an IDEAL; 20, 30, 40 and a place .. OUTSIDE.";
        for (int what = -20; what <= 110; what++) {
            Run x = furnished();
            long want = OUTSIDE;
            if (what == 0) {
                want = 4;
            } else if (what >= 10 && what <= 13) {
                want = new int[] {3, 3, 1, 4}[what - 10];
            } else if (what >= 20 && what <= 43 && what % 10 <= 3) {
                want = new int[] {1, 1, 0, 0, 2, 0, 2, 0, 1, 2, 0, 2}[(what / 10 - 2) * 4 + what % 10];
            }
            due("told(" + what + ")", x.call().told(what), want);
        }
        int[][] ranges = {{0, 0}, {10, 13}, {20, 23}, {30, 33}, {40, 43}};
        for (int[] range : ranges) {
            for (int what : besides(range[0], range[1])) {
                refused(FURNISHED, "told(" + what + ")", OUTSIDE, x -> x.call().told(what));
            }
        }
        due("told(0) of 60", FULL_PAD.make().call().told(0), 60);
    }

    private static void newObjects() {
        sentence = "Nothing is in any.";
        furnished();
        List<Long> due = new ArrayList<>(List.of(0L, (long) NONE));
        for (int n = 0; n < 4 + 12 + 2; n++) {
            due.add(0L);
        }
        due.addAll(List.of((long) STATE, (long) STATE, 0L));
        due("a new object is as it must be", everything(new Run()).equals(due) ? 1 : 0, 1);
        for (int place = 0; place < 12; place++) {
            due("measure", new Run().call().measure(place / 4, place % 4), NO);
        }
        for (int ideal = 0; ideal < 4; ideal++) {
            due("has(" + ideal + ", 0)", new Run().call().has(ideal, 0), 0);
            due("has(" + ideal + ", 6666)", new Run().call().has(ideal, 6666), 0);
            due("count(" + ideal + ", 60)", new Run().call().count(ideal, 60), 39711);
        }
    }

    // ---- what was there before

    /** Asks much of ideals 0 and 1, from behind too, and makes much of them. */
    private static List<Long> answers(Run x) {
        List<Long> out = new ArrayList<>();
        for (int ideal = 0; ideal < 2; ideal++) {
            addGenerators(x, ideal, out);
            for (int what = 4; what >= 0; what--) {
                out.add((long) x.call().facts(ideal, what));
            }
            for (int i = -1; i < 3; i++) {
                out.add((long) x.call().part(ideal, i));
                out.add((long) x.call().prime(ideal, i));
                out.add((long) x.call().betti(ideal, i + 1));
                out.add((long) x.call().bettiAt(ideal, i + 1, 2300));
            }
            out.add((long) x.call().count(ideal, 60));
            out.add((long) x.call().series(ideal, 4));
            out.add(x.call().share(ideal, 3, 1));
            out.add((long) x.call().has(ideal, 5555));
        }
        out.add((long) x.call().compare(0, 1));
        for (int how = 0; how < 5; how++) {
            out.add((long) x.call().make(how, 0, 1, 2));
            addGenerators(x, 2, out);
        }
        out.add((long) x.call().dual(0, 2300, 3));
        addGenerators(x, 3, out);
        out.add((long) x.call().primary(0, 3, 3));
        addGenerators(x, 3, out);
        return out;
    }

    private static void formerStates() {
        sentence = "An IDEAL is that of the LIST, whatever it was before";
        String[][] lists = {{"a2,ab,b3", "c,d2"}, {"c", "d"}, {"a2b,ab3", "1"}, {"", "b"}, {"a,b", ""}};
        Maker[] before = {
            () -> fortyByProduct().make(2, 1, 0, 3, 0, 3, 3, 0, 0, 3, 3, 1, 0, 3, 3, 2),
            () -> with("a6,b6,c6,d6", "a6,b6,c6,d6", "a6,b6,c6,d6", "a6,b6,c6,d6"),
            () -> with("a5b6c6d6,a6b6c5d6", "a2b,b3c4,c2d5", "1", "a"),
            () -> with("a,a2,a3", "1,1")};
        for (String[] pair : lists) {
            List<Long> due = answers(with(pair));
            for (int n = 0; n < before.length; n++) {
                Run x = before[n].make();
                for (int what = 0; what < 5; what++) {
                    x.call().facts(0, what);
                    x.call().betti(1, what);
                }
                x.load(0, pair[0]).load(1, pair[1]).load(2, "").load(3, "");
                due("\"" + pair[0] + "\", \"" + pair[1] + "\" behind " + n, answers(x).equals(due) ? 1 : 0, 1);
            }
        }
        sentence = "THE FAULT; NONE: whatever was read before";
        for (String text : new String[] {"1x", "x", "ax", "a6x", "a5a2", "a,x", "a,", "1,2", "b3c4d5,7"}) {
            for (String next : new String[] {"1", "a", "a6", "aaaaaa", "a,1", ""}) {
                Run x = new Run().say(text);
                due("there is a FAULT in " + text, x.call().fault() >= 0 ? 1 : 0, 1);
                due("load(0) of " + text, x.call().load(0), NO);
                due("wipe()", x.call().wipe(), text.length());
                due("fault() of " + next + " behind " + text, x.say(next).call().fault(), NONE);
                due("load(0) of " + next, x.call().load(0), next.isEmpty() ? 0 : 1);
            }
        }
        sentence = "FACTS, asked in any order, and again";
        int[] due = {0, 473, 13, 5, 81};
        for (int first = 0; first < 5; first++) {
            Run x = with("a6,b6,c6,d6,abcd,a3b3,c3d3", "a5b6c6d6,a6b6c5d6", "ab,bc");
            due("facts(0, " + first + ") first", x.call().facts(0, first), due[first]);
            due("facts(0, " + first + ") again", x.call().facts(0, first), due[first]);
            due("facts(1, 3)", x.call().facts(1, 3), 22);
            due("facts(1, 2)", x.call().facts(1, 2), 22);
            due("facts(2, 3)", x.call().facts(2, 3), 1);
            due("facts(2, 2)", x.call().facts(2, 2), 1);
            due("facts(0, " + first + ") again", x.call().facts(0, first), due[first]);
        }
    }

    // ---- which refusal comes first

    private static void refusals() {
        sentence = "there is no such IDEAL, SHELF, place on a SHELF; with another refusal beside it";
        for (int bad : besides(0, 3)) {
            noSuchIdeal(bad);
            noSuchTarget(bad);
            noSuchPlace(bad);
        }
        for (int shelf : besides(0, 2)) {
            noSuchShelf(shelf);
        }
        sentence = "OUTSIDE: no CODE";
        for (int code : NO_CODES) {
            refused(FURNISHED, "has(0, " + code + ")", OUTSIDE, x -> x.call().has(0, code));
            refused(FURNISHED, "has(4, " + code + ")", UNKNOWN, x -> x.call().has(4, code));
            refused(FURNISHED, "dual(0, " + code + ", 3)", OUTSIDE, x -> x.call().dual(0, code, 3));
            refused(FURNISHED, "dual(2, " + code + ", 2)", OUTSIDE, x -> x.call().dual(2, code, 2));
            refused(FURNISHED, "dual(0, " + code + ", 4)", UNKNOWN, x -> x.call().dual(0, code, 4));
            refused(FURNISHED, "dual(-1, " + code + ", 0)", UNKNOWN, x -> x.call().dual(-1, code, 0));
        }
        sentence = "OUTSIDE -2 (another number is not as told)";
        for (int how : besides(0, 4)) {
            refused(FURNISHED, "make(" + how + ", 0, 1, 2)", OUTSIDE, x -> x.call().make(how, 0, 1, 2));
            refused(FURNISHED, "make(" + how + ", 1, 1, 1), which would be too high", OUTSIDE,
                    x -> x.call().make(how, 1, 1, 1));
            refused(FURNISHED, "make(" + how + ", 0, 1, 4)", UNKNOWN, x -> x.call().make(how, 0, 1, 4));
        }
        signsRefused();
    }

    private static void signsRefused() {
        sentence = "A sign more: how many. OUTSIDE; FULL.";
        for (int sign : besides(33, 126)) {
            refused(FURNISHED, "say(" + sign + ")", OUTSIDE, x -> x.call().say(sign));
            refused(FULL_PAD, "say(" + sign + ") to a full PAD", OUTSIDE, x -> x.call().say(sign));
        }
        for (int sign = 33; sign <= 126; sign++) {
            int one = sign;
            refused(FULL_PAD, "say(" + sign + ") to a full PAD", FULL, x -> x.call().say(one));
            refused(FULL_AND_FAULTY, "say(" + sign + ") to a full PAD", FULL, x -> x.call().say(one));
        }
        sentence = "UNKNOWN; NO: there is a FAULT.";
        Maker[] faulty = {MORE_MUST_COME, CAN_NOT_STAND, FULL_AND_FAULTY};
        int[] faults = {5, 4, 60};
        for (int n = 0; n < faulty.length; n++) {
            due("fault()", faulty[n].make().call().fault(), faults[n]);
            for (int ideal = 0; ideal < 4; ideal++) {
                int to = ideal;
                refused(faulty[n], "load(" + to + ")", NO, x -> x.call().load(to));
            }
        }
        for (int ideal : besides(0, 3)) {
            refused(FURNISHED, "load(" + ideal + ")", UNKNOWN, x -> x.call().load(ideal));
            refused(MORE_MUST_COME, "load(" + ideal + ")", UNKNOWN, x -> x.call().load(ideal));
            refused(CAN_NOT_STAND, "load(" + ideal + ")", UNKNOWN, x -> x.call().load(ideal));
            refused(FULL_PAD, "load(" + ideal + ")", UNKNOWN, x -> x.call().load(ideal));
            refused(FULL_AND_FAULTY, "load(" + ideal + ")", UNKNOWN, x -> x.call().load(ideal));
            refused(NEW, "load(" + ideal + ")", UNKNOWN, x -> x.call().load(ideal));
        }
    }

    private static void noSuchIdeal(int bad) {
        for (int i : new int[] {-1, 0, 99, LEAST, MOST}) {
            refused(FURNISHED, "generator(" + bad + ", " + i + ")", UNKNOWN, x -> x.call().generator(bad, i));
            refused(FURNISHED, "part(" + bad + ", " + i + ")", UNKNOWN, x -> x.call().part(bad, i));
            refused(FURNISHED, "prime(" + bad + ", " + i + ")", UNKNOWN, x -> x.call().prime(bad, i));
            refused(FURNISHED, "has(" + bad + ", " + i + ")", UNKNOWN, x -> x.call().has(bad, i));
            refused(FURNISHED, "count(" + bad + ", " + i + ")", UNKNOWN, x -> x.call().count(bad, i));
            refused(FURNISHED, "facts(" + bad + ", " + i + ")", UNKNOWN, x -> x.call().facts(bad, i));
            refused(FURNISHED, "betti(" + bad + ", " + i + ")", UNKNOWN, x -> x.call().betti(bad, i));
            refused(FURNISHED, "bettiAt(" + bad + ", " + i + ", 0)", UNKNOWN, x -> x.call().bettiAt(bad, i, 0));
            refused(FURNISHED, "bettiAt(" + bad + ", 0, " + i + ")", UNKNOWN, x -> x.call().bettiAt(bad, 0, i));
            refused(FURNISHED, "primary(" + bad + ", " + i + ", 1)", UNKNOWN, x -> x.call().primary(bad, i, 1));
            refused(FURNISHED, "dual(" + bad + ", " + i + ", 1)", UNKNOWN, x -> x.call().dual(bad, i, 1));
        }
        refused(FURNISHED, "compare(" + bad + ", 0)", UNKNOWN, x -> x.call().compare(bad, 0));
        refused(FURNISHED, "compare(0, " + bad + ")", UNKNOWN, x -> x.call().compare(0, bad));
        refused(FURNISHED, "compare(" + bad + ", " + bad + ")", UNKNOWN, x -> x.call().compare(bad, bad));
        for (int how = -1; how <= 5; how++) {
            int kind = how;
            refused(FURNISHED, "make(" + how + ", " + bad + ", 1, 1)", UNKNOWN, x -> x.call().make(kind, bad, 1, 1));
            refused(FURNISHED, "make(" + how + ", 1, " + bad + ", 1)", UNKNOWN, x -> x.call().make(kind, 1, bad, 1));
        }
    }

    private static void noSuchTarget(int bad) {
        for (int how = -1; how <= 5; how++) {
            int kind = how;
            // the product of 1 with itself has a8
            refused(FURNISHED, "make(" + how + ", 1, 1, " + bad + ")", UNKNOWN, x -> x.call().make(kind, 1, 1, bad));
            refused(FURNISHED, "make(" + how + ", 0, 2, " + bad + ")", UNKNOWN, x -> x.call().make(kind, 0, 2, bad));
        }
        refused(FURNISHED, "primary(0, 3, " + bad + ")", UNKNOWN, x -> x.call().primary(0, 3, bad));
        refused(FURNISHED, "primary(0, 1, " + bad + "), no PRIME", UNKNOWN, x -> x.call().primary(0, 1, bad));
        refused(FURNISHED, "dual(0, 6666, " + bad + ")", UNKNOWN, x -> x.call().dual(0, 6666, bad));
        refused(FURNISHED, "dual(0, 7, " + bad + "), no CODE", UNKNOWN, x -> x.call().dual(0, 7, bad));
        refused(FURNISHED, "dual(0, 1000, " + bad + "), too low", UNKNOWN, x -> x.call().dual(0, 1000, bad));
        refused(FURNISHED, "hold(0, 0, " + bad + ", false)", UNKNOWN, x -> x.call().hold(0, 0, bad, false));
        refused(FURNISHED, "hold(0, 0, " + bad + ", true), a RING", UNKNOWN, x -> x.call().hold(0, 0, bad, true));
        refused(FURNISHED, "hold(1, 0, " + bad + ", false), no RING", UNKNOWN, x -> x.call().hold(1, 0, bad, false));
        refused(FURNISHED, "take(0, 0, " + bad + ")", UNKNOWN, x -> x.call().take(0, 0, bad));
        refused(FURNISHED, "take(0, 3, " + bad + "), empty", UNKNOWN, x -> x.call().take(0, 3, bad));
        refused(FURNISHED, "take(1, 0, " + bad + "), a RING", UNKNOWN, x -> x.call().take(1, 0, bad));
    }

    private static void noSuchPlace(int bad) {
        for (int shelf = 0; shelf < 3; shelf++) {
            int on = shelf;
            refused(FURNISHED, "hold(" + on + ", " + bad + ", 0, true)", UNKNOWN, x -> x.call().hold(on, bad, 0, true));
            refused(FURNISHED, "hold(" + on + ", " + bad + ", 0, false)", UNKNOWN,
                    x -> x.call().hold(on, bad, 0, false));
            refused(FURNISHED, "take(" + on + ", " + bad + ", 0)", UNKNOWN, x -> x.call().take(on, bad, 0));
            refused(FURNISHED, "measure(" + on + ", " + bad + ")", UNKNOWN, x -> x.call().measure(on, bad));
            refused(NEW, "take(" + on + ", " + bad + ", 0)", UNKNOWN, x -> x.call().take(on, bad, 0));
            refused(NEW, "measure(" + on + ", " + bad + ")", UNKNOWN, x -> x.call().measure(on, bad));
        }
    }

    private static void noSuchShelf(int bad) {
        for (int place = 0; place < 4; place++) {
            int at = place;
            refused(FURNISHED, "hold(" + bad + ", " + at + ", 0, true)", UNKNOWN, x -> x.call().hold(bad, at, 0, true));
            refused(FURNISHED, "hold(" + bad + ", " + at + ", 0, false)", UNKNOWN,
                    x -> x.call().hold(bad, at, 0, false));
            refused(FURNISHED, "take(" + bad + ", " + at + ", 0)", UNKNOWN, x -> x.call().take(bad, at, 0));
            refused(FURNISHED, "measure(" + bad + ", " + at + ")", UNKNOWN, x -> x.call().measure(bad, at));
        }
    }

    private static void lastCall() {
        sentence = "An object is used for at most 512 calls after it has been made";
        Run x = furnished();
        while (x.calls < MOST_CALLS - 3) {
            int n = x.calls;
            due("has", x.call().has(n % 4, 1111), 1);
            if (x.calls < MOST_CALLS - 3) {
                due("image", x.call().image(n % 2), 1);
            }
        }
        due("make, the 510th", x.call().make(0, 0, 1, 0), 5);
        due("restore, the 511th", x.call().restore(0), 1);
        due("generator, the 512th", x.call().generator(0, -1), 3);
    }
}
