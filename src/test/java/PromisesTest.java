import java.util.ArrayList;
import java.util.List;

/** For each promise of the document: ordinary inputs, its edges, and each refusal in its order. */
public final class PromisesTest {
    private static final int UNKNOWN = -1, OUTSIDE = -2, STATE = -3, FULL = -4, NO = -5, NONE = -6;
    private static final long GONE = -1000000000000000000L;
    private static final int[] BAD_IDEALS = {-1, 4, Integer.MIN_VALUE, Integer.MAX_VALUE};
    private static final int[] BAD_CODES = {-1, 7, 8, 9, 70, 97, 700, 667, 7000, 6670, 6667, 10000, 16666, 100000,
        -1000, Integer.MIN_VALUE, Integer.MAX_VALUE};
    private static final String[] MANY_INSIDE = {
        "b6c2d,a3c6d2,a2b2d5,c5d3,bc4d6,a4d4,a5c2d2,a6cd3,b5d3,a2bc4",
        "ab2c2d2,a3bcd3,a2b4c,a6bc3d,a4c3d2,a5b2c3,ab2c3d,a3b2c2d2",
        "b3c3d2,a2bc3d2,a3b3d3,ab5c3d4"};
    private static final String[] MANY_PARTS = {
        "a2b5c2,ab6c,a4b4cd2,bd6,b3c3d5,a5b3cd2,a3b4c4,a4b2c4d,ab4c5d",
        "a2c6d3,a3b3c4d,a2c3d4,a3bc5d2,a3bc2d5,a5b3d,a3b3c2d3,b3c4d2",
        "a2b3c3d3,a5b2d3,a2b4c3d2,a3c3d4,b2c5d3,a2b4c2d3,a5bc5,a6bc4"};
    private static final int MOST_CALLS = 512;
    private static int wrong = 0;
    private static int promise = 0;

    /** An object, with a count of its calls: what later ones answer is free, so that none is made. */
    private static final class Run {
        private final StairIdeals object = new StairIdeals();
        private int calls = 0;

        StairIdeals call() {
            calls++;
            if (calls == MOST_CALLS + 1) {
                due("calls of one object", calls, MOST_CALLS);
            }
            return object;
        }
    }

    public static void main(String[] args) {
        newObject();
        saying();
        wiping();
        faults();
        loading();
        generators();
        membership();
        sums();
        meets();
        products();
        quotients();
        radicals();
        makingRefused();
        comparing();
        parts();
        primes();
        primaries();
        duals();
        counts();
        seriesFactors();
        facts();
        bettis();
        bettisAt();
        shares();
        holding();
        taking();
        measuring();
        images();
        telling();
        System.out.println(wrong == 0 ? "PromisesTest: all answers are as due" : wrong + " answers are not as due");
        if (wrong != 0) {
            System.exit(1);
        }
    }

    private static void due(String call, long got, long want) {
        if (got != want) {
            wrong++;
            System.out.println("promise " + promise + ": " + call + " answered " + got + ", due is " + want);
        }
    }

    private static void said(Run x, String text) {
        for (int i = 0; i < text.length(); i++) {
            due("say " + text.charAt(i) + " of " + text, x.call().say(text.charAt(i)), i + 1);
        }
    }

    private static void load(Run x, int ideal, String text) {
        x.call().wipe();
        said(x, text);
        x.call().load(ideal);
    }

    private static Run with(String... texts) {
        Run x = new Run();
        for (int i = 0; i < texts.length; i++) {
            load(x, i, texts[i]);
        }
        return x;
    }

    private static void generatorsAre(Run x, int ideal, int... codes) {
        due("generator(" + ideal + ", -1)", x.call().generator(ideal, -1), codes.length);
        for (int i = 0; i < codes.length; i++) {
            due("generator(" + ideal + ", " + i + ")", x.call().generator(ideal, i), codes[i]);
        }
    }

    private static void partsAre(Run x, int ideal, int... codes) {
        due("part(" + ideal + ", -1)", x.call().part(ideal, -1), codes.length);
        for (int i = 0; i < codes.length; i++) {
            due("part(" + ideal + ", " + i + ")", x.call().part(ideal, i), codes[i]);
        }
        due("part behind the last", x.call().part(ideal, codes.length), NONE);
    }

    /** All that can be told of an object, to see that a refused call changes nothing. */
    private static List<Integer> stateOf(Run x) {
        List<Integer> out = new ArrayList<>();
        out.add(x.call().told(0));
        out.add(x.call().fault());
        for (int ideal = 0; ideal < 4; ideal++) {
            int size = x.call().generator(ideal, -1);
            out.add(size);
            for (int i = 0; i < size; i++) {
                out.add(x.call().generator(ideal, i));
            }
        }
        for (int shelf = 0; shelf < 3; shelf++) {
            for (int place = 0; place < 4; place++) {
                out.add(x.call().told(20 + 10 * shelf + place));
                out.add(x.call().measure(shelf, place));
            }
        }
        return out;
    }

    private static void unchanged(String call, Run x, List<Integer> before) {
        due(call + " changes nothing", stateOf(x).equals(before) ? 1 : 0, 1);
    }

    private static void newObject() {
        promise = 1;
        Run x = new Run();
        due("told(0)", x.call().told(0), 0);
        due("fault()", x.call().fault(), NONE);
        for (int k = 0; k < 4; k++) {
            generatorsAre(x, k);
            due("has(k, 0)", x.call().has(k, 0), 0);
            due("has(k, 6666)", x.call().has(k, 6666), 0);
            due("told(10 + k)", x.call().told(10 + k), 0);
            for (int shelf = 0; shelf < 3; shelf++) {
                due("told of a place", x.call().told(20 + 10 * shelf + k), 0);
                due("measure", x.call().measure(shelf, k), NO);
            }
        }
        due("restore(0)", x.call().restore(0), STATE);
        due("restore(1)", x.call().restore(1), STATE);
        Run other = with("a");
        due("another object", x.call().generator(0, -1), 0);
        due("that one", other.call().generator(0, -1), 1);
    }

    private static void saying() {
        promise = 2;
        Run x = new Run();
        int[] bad = {32, 127, 0, -1, 128, 97 + 256, Integer.MIN_VALUE, Integer.MAX_VALUE};
        for (int sign : bad) {
            due("say(" + sign + ")", x.call().say(sign), OUTSIDE);
        }
        due("say(33)", x.call().say(33), 1);
        due("say(126)", x.call().say(126), 2);
        for (int n = 3; n <= 60; n++) {
            due("say", x.call().say('a'), n);
        }
        due("say at 60", x.call().say('a'), FULL);
        due("say of no sign at 60", x.call().say(32), OUTSIDE);
        due("told(0)", x.call().told(0), 60);
        due("fault()", x.call().fault(), 0);
    }

    private static void wiping() {
        promise = 3;
        Run x = new Run();
        due("wipe()", x.call().wipe(), 0);
        said(x, "ab,");
        due("wipe()", x.call().wipe(), 3);
        due("wipe()", x.call().wipe(), 0);
        due("told(0)", x.call().told(0), 0);
        due("fault()", x.call().fault(), NONE);
        said(x, "b");
        due("load(0)", x.call().load(0), 1);
        generatorsAre(x, 0, 100);
    }

    private static void faults() {
        promise = 4;
        Object[][] rows = {
            {"", NONE}, {"1", NONE}, {"a", NONE}, {"a6", NONE}, {"aaaaaa", NONE}, {"a1a2a3", NONE}, {"abcd", NONE},
            {"1,1", NONE}, {"a,1,b", NONE}, {"a5a", NONE}, {"a5a1", NONE}, {"aaaaab6a", NONE}, {"d6c6b6a6", NONE},
            {"a6,a6", NONE}, {"a1", NONE}, {"ab1", NONE},
            {",", 0}, {"a,", 2}, {"1,", 2}, {"a,,", 2}, {"11", 1}, {"1a", 1}, {"12", 1}, {"2", 0}, {"a0", 1},
            {"a7", 1}, {"a9", 1}, {"a23", 2}, {"a6a", 2}, {"aaaaaaa", 6}, {"a5a2", 3}, {"a4a3", 3}, {"a3ba4", 4},
            {"e", 0}, {"A", 0}, {"a+b", 1}, {"a*b", 1}, {"a^2", 1}, {"a;b", 1}, {"0", 0}, {"b6c6d6a6a", 8},
            {"a,b,c,a7", 7}, {"a,2", 2}, {"a11", 2}, {"1,1,", 4}, {"a,1b", 3}, {"a1,11", 4}, {"a6b6ab", 4}};
        for (Object[] row : rows) {
            Run x = new Run();
            said(x, (String) row[0]);
            due("fault() of " + row[0], x.call().fault(), (Integer) row[1]);
            due("fault() again", x.call().fault(), (Integer) row[1]);
            due("told(0)", x.call().told(0), ((String) row[0]).length());
        }
        Run x = new Run();
        said(x, "a,");
        due("more must come", x.call().fault(), 2);
        x.call().say('1');
        due("it has come", x.call().fault(), NONE);
        x.call().say('x');
        due("a sign that can not stand", x.call().fault(), 3);
        x.call().say(',');
        due("the first one is told", x.call().fault(), 3);
    }

    private static void loading() {
        promise = 5;
        Run x = new Run();
        said(x, "ab,a2,b3,a2b,aab5,ba");
        due("load(2)", x.call().load(2), 3);
        generatorsAre(x, 2, 300, 1100, 2000);
        due("the pad is empty", x.call().told(0), 0);
        due("load(2) of nothing", x.call().load(2), 0);
        generatorsAre(x, 2);
        StringBuilder all = new StringBuilder("a");
        for (int n = 1; n < 30; n++) {
            all.append(",").append("abcd".charAt(n % 4));
        }
        said(x, all.toString());
        due("load(3) of thirty", x.call().load(3), 4);
        generatorsAre(x, 3, 1, 10, 100, 1000);
        load(x, 3, "a,1,b6");
        generatorsAre(x, 3, 0);
        x.call().wipe();
        said(x, "a,");
        List<Integer> before = stateOf(x);
        due("load(3) with a fault", x.call().load(3), NO);
        unchanged("load(3)", x, before);
        for (int k : BAD_IDEALS) {
            due("load(" + k + ")", x.call().load(k), UNKNOWN);
        }
        x.call().say('b');
        for (int k : BAD_IDEALS) {
            due("load(" + k + ")", x.call().load(k), UNKNOWN);
        }
        due("told(0)", x.call().told(0), 3);
        due("load(0)", x.call().load(0), 2);
    }

    private static void generators() {
        promise = 6;
        Run x = with("d,c2,ab,b6", "1");
        generatorsAre(x, 0, 1, 20, 600, 1100);
        generatorsAre(x, 1, 0);
        int[] none = {4, -2, 40, 41, Integer.MAX_VALUE, Integer.MIN_VALUE};
        for (int i : none) {
            due("generator(0, " + i + ")", x.call().generator(0, i), NONE);
        }
        due("generator(2, -1)", x.call().generator(2, -1), 0);
        due("generator(2, 0)", x.call().generator(2, 0), NONE);
        for (int k : BAD_IDEALS) {
            due("generator(k, -1)", x.call().generator(k, -1), UNKNOWN);
            due("generator(k, 99)", x.call().generator(k, 99), UNKNOWN);
        }
    }

    private static void membership() {
        promise = 7;
        Run x = with("a2b,c3", "1");
        int[][] rows = {{2100, 1}, {6666, 1}, {1666, 1}, {1626, 0}, {2026, 0}, {2126, 1}, {30, 1}, {29, -2}, {26, 0},
            {0, 0}, {6020, 0}, {666, 1}, {606, 0}};
        for (int[] row : rows) {
            due("has(0, " + row[0] + ")", x.call().has(0, row[0]), row[1]);
        }
        due("has(1, 0)", x.call().has(1, 0), 1);
        due("has(2, 6666)", x.call().has(2, 6666), 0);
        for (int code : BAD_CODES) {
            due("has(0, " + code + ")", x.call().has(0, code), OUTSIDE);
            due("has(4, " + code + ")", x.call().has(4, code), UNKNOWN);
        }
        for (int k : BAD_IDEALS) {
            due("has(k, 0)", x.call().has(k, 0), UNKNOWN);
        }
    }

    private static void sums() {
        promise = 8;
        Run x = with("a2b,c3", "ab,d", "1");
        due("sum", x.call().make(0, 0, 1, 3), 3);
        generatorsAre(x, 3, 1, 30, 1100);
        due("sum into one of both", x.call().make(0, 0, 1, 1), 3);
        generatorsAre(x, 1, 1, 30, 1100);
        due("sum with all", x.call().make(0, 0, 2, 3), 1);
        generatorsAre(x, 3, 0);
        due("sum of nothing", with().call().make(0, 1, 2, 3), 0);
    }

    private static void meets() {
        promise = 8;
        Run x = with("a2,b", "a,c3", "1");
        due("meet", x.call().make(1, 0, 1, 3), 3);
        generatorsAre(x, 3, 130, 1100, 2000);
        due("meet with all", x.call().make(1, 0, 2, 3), 2);
        generatorsAre(x, 3, 100, 2000);
        load(x, 3, "");
        due("meet with nothing", x.call().make(1, 0, 3, 2), 0);
        due("meet into one of both", x.call().make(1, 0, 1, 0), 3);
        generatorsAre(x, 0, 130, 1100, 2000);
    }

    private static void products() {
        promise = 8;
        Run x = with("a2,b", "a,c3", "1");
        due("product", x.call().make(2, 0, 1, 3), 4);
        generatorsAre(x, 3, 130, 1100, 2030, 3000);
        due("product with all", x.call().make(2, 0, 2, 3), 2);
        generatorsAre(x, 3, 100, 2000);
        load(x, 3, "");
        due("product with nothing", x.call().make(2, 0, 3, 2), 0);
        x = with("a3", "a4", "b3,c3,d3");
        due("a to the seventh", x.call().make(2, 0, 1, 3), STATE);
        due("a to the sixth", x.call().make(2, 0, 0, 3), 1);
        generatorsAre(x, 3, 6000);
        due("d to the sixth", x.call().make(2, 2, 2, 3), 6);
        generatorsAre(x, 3, 6, 33, 60, 303, 330, 600);
        x = with("a4,b", "a4,b,c", "a4c,b", "a3,b");
        due("a8 is too high", x.call().make(2, 0, 1, 3), STATE);
        // a8bc lies beyond a4bc, which is a product, too
        x = with("a4c,a2b", "a4b,a2c");
        due("what is too high does no harm if it is no generator", x.call().make(2, 0, 1, 3), 3);
        generatorsAre(x, 3, 4110, 6020, 6200);
        x = with("d4c,d2b", "d4b,d2c");
        due("nor with d", x.call().make(2, 0, 1, 3), 3);
        generatorsAre(x, 3, 26, 114, 206);
        x = with("a4,b3c", "a4,a2b,b3");
        due("a8 is a generator", x.call().make(2, 0, 1, 3), STATE);
        x = with("d4,a", "d4,b");
        due("d8", x.call().make(2, 0, 1, 3), STATE);
        x = with("d4,d3a", "d3,b");
        due("d7", x.call().make(2, 0, 1, 3), STATE);
        x = with("d2", "d4");
        due("d6", x.call().make(2, 0, 1, 3), 1);
        generatorsAre(x, 3, 6);
        x = with("a,b6", "a6,b5");
        load(x, 0, "c");
        load(x, 1, "d");
        due("former generators have gone", x.call().make(2, 0, 1, 3), 1);
        load(x, 0, "a,b6");
        load(x, 0, "c");
        load(x, 1, "a6");
        due("former generators have gone", x.call().make(2, 0, 1, 3), 1);
        due("former generators have gone", x.call().make(2, 1, 0, 3), 1);
    }

    private static void quotients() {
        promise = 8;
        Run x = with("a2b,c3,ad2", "ab", "1");
        due("quotient by a monomial", x.call().make(3, 0, 1, 3), 3);
        generatorsAre(x, 3, 2, 30, 1000);
        due("quotient by all", x.call().make(3, 0, 2, 3), 3);
        generatorsAre(x, 3, 30, 1002, 2100);
        load(x, 3, "");
        due("quotient by nothing", x.call().make(3, 0, 3, 1), 1);
        generatorsAre(x, 1, 0);
        due("quotient of nothing", x.call().make(3, 3, 0, 1), 0);
        due("quotient by itself", x.call().make(3, 0, 0, 1), 1);
        generatorsAre(x, 1, 0);
        x = with("ab,bc,cd,ad", "a,c");
        due("quotient by a prime", x.call().make(3, 0, 1, 2), 2);
        generatorsAre(x, 2, 1, 100);
        x = with("d6,a6b", "d4,a3");
        due("quotient in d", x.call().make(3, 0, 1, 0), 3);
        generatorsAre(x, 0, 6, 3102, 6100);
    }

    private static void radicals() {
        promise = 8;
        Run x = with("a2b3,b6,c4d,acd5", "1");
        due("radical", x.call().make(4, 0, 0, 2), 2);
        generatorsAre(x, 2, 11, 100);
        due("radical of all", x.call().make(4, 1, 0, 2), 1);
        generatorsAre(x, 2, 0);
        due("radical of nothing", x.call().make(4, 3, 1, 2), 0);
        due("radical into itself", x.call().make(4, 0, 3, 0), 2);
        generatorsAre(x, 0, 11, 100);
    }

    private static void makingRefused() {
        promise = 8;
        Run x = with("a4", "b4");
        List<Integer> before = stateOf(x);
        for (int k : BAD_IDEALS) {
            for (int how = -1; how <= 5; how++) {
                due("make(how, bad, 0, 0)", x.call().make(how, k, 0, 0), UNKNOWN);
                due("make(how, 0, bad, 0)", x.call().make(how, 0, k, 0), UNKNOWN);
                due("make(how, 0, 0, bad)", x.call().make(how, 0, 0, k), UNKNOWN);
            }
        }
        int[] bad = {-1, 5, Integer.MIN_VALUE, Integer.MAX_VALUE};
        for (int how : bad) {
            due("make(" + how + ", 0, 1, 2)", x.call().make(how, 0, 1, 2), OUTSIDE);
        }
        due("too high", x.call().make(2, 0, 0, 0), STATE);
        unchanged("make", x, before);
        fullSums();
    }

    private static void fullSums() {
        // all 35 monomials of degree 4, then more that none of them divides
        Run x = with("a,b,c,d");
        x.call().make(2, 0, 0, 1);
        due("degree 4", x.call().make(2, 1, 1, 2), 35);
        x.call().make(2, 2, 1, 3);
        due("degree 6 is more than 40", x.call().generator(3, -1), 0);
        due("degree 5 is more than 40", x.call().make(2, 2, 0, 3), FULL);
        due("degree 6", x.call().make(2, 2, 1, 3), FULL);
        due("degree 8: too high comes first", x.call().make(2, 2, 2, 3), STATE);
        generatorsAre(x, 3);
        x = new Run();
        for (int list = 0; list < 3; list++) {
            load(x, 0, MANY_INSIDE[list]);
            x.call().make(0, 0, 1, 1);
        }
        due("twenty", x.call().generator(1, -1), 20);
        List<Integer> before = stateOf(x);
        due("product of twenty", x.call().make(2, 1, 1, 1), STATE);
        unchanged("make", x, before);
    }

    private static void comparing() {
        promise = 9;
        Run x = with("a2,ab", "a", "b", "a2,ab");
        due("compare(0, 3)", x.call().compare(0, 3), 0);
        due("compare(0, 0)", x.call().compare(0, 0), 0);
        due("compare(0, 1)", x.call().compare(0, 1), 1);
        due("compare(1, 0)", x.call().compare(1, 0), 2);
        due("compare(1, 2)", x.call().compare(1, 2), 3);
        x = with("1", "", "d6");
        due("nothing in all", x.call().compare(1, 0), 1);
        due("all around nothing", x.call().compare(0, 1), 2);
        due("nothing, nothing", x.call().compare(1, 3), 0);
        due("d6 in all", x.call().compare(2, 0), 1);
        for (int k : BAD_IDEALS) {
            due("compare(bad, 0)", x.call().compare(k, 0), UNKNOWN);
            due("compare(0, bad)", x.call().compare(0, k), UNKNOWN);
            due("compare(bad, bad)", x.call().compare(k, k), UNKNOWN);
        }
    }

    private static void parts() {
        promise = 10;
        Run x = with("a2,ab,b3", "", "1", "a6b6c6d6");
        partsAre(x, 0, 1300, 2100);
        partsAre(x, 1, 0);
        partsAre(x, 2);
        partsAre(x, 3, 6, 60, 600, 6000);
        load(x, 0, "a2,ab");
        partsAre(x, 0, 1000, 2100);
        load(x, 0, "ab,cd");
        partsAre(x, 0, 101, 110, 1001, 1010);
        load(x, 0, "a3b2c,d");
        partsAre(x, 0, 11, 201, 3001);
        load(x, 0, "a6,b6,c6,d6");
        partsAre(x, 0, 6666);
        load(x, 0, "a,b,c,d");
        partsAre(x, 0, 1111);
        int[] none = {1, -2, Integer.MAX_VALUE, Integer.MIN_VALUE};
        for (int i : none) {
            due("part(0, " + i + ")", x.call().part(0, i), NONE);
        }
        for (int k : BAD_IDEALS) {
            due("part(k, -1)", x.call().part(k, -1), UNKNOWN);
            due("part(k, 0)", x.call().part(k, 0), UNKNOWN);
        }
    }

    private static void primes() {
        promise = 11;
        Run x = with("a2,ab", "", "1", "a6b6c6d6");
        due("primes of a2,ab", x.call().prime(0, -1), 2);
        due("the least", x.call().prime(0, 0), 1);
        due("the next", x.call().prime(0, 1), 3);
        due("no more", x.call().prime(0, 2), NONE);
        due("of nothing", x.call().prime(1, -1), 1);
        due("the empty set", x.call().prime(1, 0), 0);
        due("of nothing, no more", x.call().prime(1, 1), NONE);
        due("of all", x.call().prime(2, -1), 0);
        due("of all, none", x.call().prime(2, 0), NONE);
        for (int v = 0; v < 4; v++) {
            due("each variable", x.call().prime(3, v), 1 << v);
        }
        load(x, 0, "a2b,ac3,d");
        due("each once", x.call().prime(0, -1), 3);
        due("a, d", x.call().prime(0, 0), 9);
        due("a, c, d: with a2, c3", x.call().prime(0, 1), 13);
        due("b, c, d", x.call().prime(0, 2), 14);
        int[] none = {-2, 3, 16, Integer.MAX_VALUE, Integer.MIN_VALUE};
        for (int i : none) {
            due("prime(0, " + i + ")", x.call().prime(0, i), NONE);
        }
        for (int k : BAD_IDEALS) {
            due("prime(k, -1)", x.call().prime(k, -1), UNKNOWN);
        }
    }

    private static void primaries() {
        promise = 12;
        Run x = with("a2,ab", "", "1", "c");
        due("by a", x.call().primary(0, 1, 3), 1);
        generatorsAre(x, 3, 1000);
        due("by a, b", x.call().primary(0, 3, 3), 2);
        generatorsAre(x, 3, 100, 2000);
        due("of nothing by none", x.call().primary(1, 0, 3), 0);
        load(x, 3, "a2,ab,b3");
        due("two parts met, into itself", x.call().primary(3, 3, 3), 3);
        generatorsAre(x, 3, 300, 1100, 2000);
        List<Integer> before = stateOf(x);
        int[] bad = {0, 2, 4, 15, 16, 17, 19, 32, 33, 35, -1, -31, -29, Integer.MIN_VALUE, Integer.MAX_VALUE};
        for (int prime : bad) {
            due("primary(0, " + prime + ", 3)", x.call().primary(0, prime, 3), STATE);
        }
        due("primary of all", x.call().primary(2, 0, 3), STATE);
        for (int k : BAD_IDEALS) {
            due("primary(bad, 1, 3)", x.call().primary(k, 1, 3), UNKNOWN);
            due("primary(0, 99, bad)", x.call().primary(0, 99, k), UNKNOWN);
        }
        unchanged("primary", x, before);
        x = new Run();
        for (int list = 0; list < 3; list++) {
            load(x, 0, MANY_INSIDE[list]);
            x.call().make(0, 0, 1, 1);
        }
        before = stateOf(x);
        due("primary by all four", x.call().primary(1, 15, 1), FULL);
        unchanged("primary", x, before);
        primariesMeet(x);
    }

    private static void primariesMeet(Run x) {
        load(x, 0, "a3b2,b4c,c2d3,abd,a5c");
        load(x, 2, "1");
        int n = x.call().prime(0, -1);
        for (int i = 0; i < n; i++) {
            x.call().primary(0, x.call().prime(0, i), 1);
            due("one prime", x.call().prime(1, -1), 1);
            due("the same prime", x.call().prime(1, 0), x.call().prime(0, i));
            x.call().make(1, 1, 2, 2);
        }
        due("all primary ones met", x.call().compare(0, 2), 0);
    }

    private static void duals() {
        promise = 13;
        Run x = with("a2,ab,b3", "", "1");
        due("dual", x.call().dual(0, 2600, 3), 2);
        generatorsAre(x, 3, 1600, 2400);
        due("lower", x.call().dual(0, 2300, 3), 2);
        generatorsAre(x, 3, 1300, 2100);
        due("dual of nothing", x.call().dual(1, 6666, 3), 1);
        generatorsAre(x, 3, 0);
        due("dual of all", x.call().dual(2, 0, 3), 0);
        List<Integer> before = stateOf(x);
        int[] low = {1600, 2200, 0, 1111, 266};
        for (int code : low) {
            due("dual against " + code, x.call().dual(0, code, 3), STATE);
        }
        for (int code : BAD_CODES) {
            due("dual(0, bad, 3)", x.call().dual(0, code, 3), OUTSIDE);
        }
        for (int k : BAD_IDEALS) {
            due("dual(bad, 7, 3)", x.call().dual(k, 7, 3), UNKNOWN);
            due("dual(0, 7, bad)", x.call().dual(0, 7, k), UNKNOWN);
        }
        unchanged("dual", x, before);
        String[] lists = {"a3b2,b4c,c2d3,abd,a5c", "a6,b6,c6,d6,abcd,a3b3,c3d3", "ab,bc,cd,ad", "d6", "1", ""};
        for (String list : lists) {
            load(x, 0, list);
            due("a generator for each part", x.call().dual(0, 6666, 1), x.call().part(0, -1));
            due("a part for each generator", x.call().part(1, -1), x.call().generator(0, -1));
            x.call().dual(1, 6666, 1);
            due("dual of the dual of " + list, x.call().compare(0, 1), 0);
        }
        fullDual();
    }

    private static void fullDual() {
        Run x = new Run();
        for (int list = 0; list < 3; list++) {
            load(x, 0, MANY_PARTS[list]);
            x.call().make(0, 0, 1, 1);
        }
        due("many parts", x.call().part(1, -1) > 40 ? 1 : 0, 1);
        List<Integer> before = stateOf(x);
        due("dual of many parts", x.call().dual(1, 6666, 0), FULL);
        due("too low comes first", x.call().dual(1, 1666, 0), STATE);
        unchanged("dual", x, before);
    }

    private static void counts() {
        promise = 14;
        Run x = with("a2,ab,b3", "", "1", "a,b,c,d2");
        int[] due = {1, 4, 8, 12, 16};
        for (int degree = 0; degree < due.length; degree++) {
            due("count(0, " + degree + ")", x.call().count(0, degree), due[degree]);
        }
        due("count(0, 60)", x.call().count(0, 60), 240);
        due("count(1, 60)", x.call().count(1, 60), 39711);
        due("count(1, 0)", x.call().count(1, 0), 1);
        due("count(2, 0)", x.call().count(2, 0), 0);
        due("count(3, 1)", x.call().count(3, 1), 1);
        due("count(3, 2)", x.call().count(3, 2), 0);
        load(x, 0, "a6b6c6d6");
        due("below degree 24 all", x.call().count(0, 23), 2600);
        due("one less", x.call().count(0, 24), 2925 - 1);
        due("many less", x.call().count(0, 60), 39711 - 9139);
        degreesRefused(x);
    }

    private static void degreesRefused(Run x) {
        int[] bad = {-1, 61, Integer.MIN_VALUE, Integer.MAX_VALUE};
        for (int degree : bad) {
            due("count(0, bad)", x.call().count(0, degree), OUTSIDE);
            due("count(4, bad)", x.call().count(4, degree), UNKNOWN);
            due("series(0, bad)", x.call().series(0, degree), -1000000 + OUTSIDE);
            due("series(4, bad)", x.call().series(4, degree), -1000000 + UNKNOWN);
            due("share(0, bad, 0)", x.call().share(0, degree, 0), GONE + OUTSIDE);
            due("share(4, bad, 9)", x.call().share(4, degree, 9), GONE + UNKNOWN);
        }
        for (int k : BAD_IDEALS) {
            due("count(bad, 0)", x.call().count(k, 0), UNKNOWN);
            due("series(bad, 0)", x.call().series(k, 0), -1000000 + UNKNOWN);
            due("share(bad, 0, 0)", x.call().share(k, 0, 0), GONE + UNKNOWN);
        }
    }

    private static void seriesFactors() {
        promise = 15;
        Run x = with("a2,ab,b3", "", "1", "a6b6c6d6");
        int[] due = {1, 0, -2, 0, 1, 0};
        for (int power = 0; power < due.length; power++) {
            due("series(0, " + power + ")", x.call().series(0, power), due[power]);
        }
        for (int power = 0; power <= 60; power++) {
            due("series of nothing", x.call().series(1, power), power == 0 ? 1 : 0);
            due("series of all", x.call().series(2, power), 0);
            due("series of one", x.call().series(3, power), power == 0 ? 1 : power == 24 ? -1 : 0);
        }
        load(x, 0, "a,b,c,d");
        int[] point = {1, -4, 6, -4, 1, 0};
        for (int power = 0; power < point.length; power++) {
            due("series of a point", x.call().series(0, power), point[power]);
        }
        load(x, 0, "a6,b6,c6,d6");
        for (int n = 0; n <= 4; n++) {
            due("series of a box", x.call().series(0, 6 * n), point[n]);
        }
        degreesRefused(x);
    }

    private static void facts() {
        promise = 16;
        factsAre("", 4, NONE, 0, 0, 0);
        factsAre("1", NONE, 0, 0, 0, 1);
        factsAre("a,b,c,d", 0, 1, 0, 0, 15);
        factsAre("a6,b6,c6,d6", 0, 1296, 0, 0, 15);
        factsAre("a2,ab,b3", 2, NONE, 1, 1, 6);
        factsAre("a2,ab", 3, NONE, 1, 1, 3);
        factsAre("ab,bc,cd,ad", 2, NONE, 2, 2, 9);
        factsAre("ab,cd", 2, NONE, 0, 0, 3);
        factsAre("a6b6c6d6", 3, NONE, 0, 0, 1);
        factsAre("a6,b6,c6,d6,abcd,a3b3,c3d3", 0, 473, 13, 5, 81);
        factsAre("c2d,cd2", 3, NONE, 2, 2, 3);
        factsAre("a5b6c6d6,a6b6c5d6", 3, NONE, 22, 22, 3);
        Run x = new Run();
        int[] bad = {-1, 5, Integer.MIN_VALUE, Integer.MAX_VALUE};
        for (int what : bad) {
            due("facts(0, " + what + ")", x.call().facts(0, what), OUTSIDE);
            due("facts(4, " + what + ")", x.call().facts(4, what), UNKNOWN);
        }
        for (int k : BAD_IDEALS) {
            due("facts(bad, 0)", x.call().facts(k, 0), UNKNOWN);
        }
    }

    private static void factsAre(String list, int... due) {
        Run x = with(list);
        for (int what = 0; what < due.length; what++) {
            due("facts(0, " + what + ") of " + list, x.call().facts(0, what), due[what]);
        }
    }

    private static void bettis() {
        promise = 17;
        bettiIs("", 0, 0, 0, 0);
        bettiIs("1", 1, 0, 0, 0);
        bettiIs("a,b,c,d", 4, 6, 4, 1);
        bettiIs("a6,b6,c6,d6", 4, 6, 4, 1);
        bettiIs("a2,ab,b3", 3, 2, 0, 0);
        bettiIs("ab,bc,cd,ad", 4, 4, 1, 0);
        bettiIs("a6,b6,c6,d6,abcd,a3b3,c3d3", 7, 18, 20, 8);
        bettiIs("ab,cd", 2, 1, 0, 0);
        bettiIs("ab,ac,ad,bc,bd,cd", 6, 8, 3, 0);
        Run x = new Run();
        int[] bad = {-1, 4, Integer.MIN_VALUE, Integer.MAX_VALUE};
        for (int i : bad) {
            due("betti(0, " + i + ")", x.call().betti(0, i), OUTSIDE);
            due("betti(4, " + i + ")", x.call().betti(4, i), UNKNOWN);
            due("bettiAt(0, " + i + ", 0)", x.call().bettiAt(0, i, 0), OUTSIDE);
            due("bettiAt(4, " + i + ", 7)", x.call().bettiAt(4, i, 7), UNKNOWN);
        }
        for (int k : BAD_IDEALS) {
            due("betti(bad, 0)", x.call().betti(k, 0), UNKNOWN);
        }
    }

    private static void bettiIs(String list, int... due) {
        Run x = with(list);
        for (int i = 0; i < due.length; i++) {
            due("betti(0, " + i + ") of " + list, x.call().betti(0, i), due[i]);
        }
    }

    private static void bettisAt() {
        promise = 18;
        Run x = with("a2,ab,b3", "ab,bc,cd,ad", "a,b,c,d", "1");
        int[][] rows = {{0, 0, 2000, 1}, {0, 0, 1100, 1}, {0, 0, 300, 1}, {0, 0, 2100, 0}, {0, 1, 2100, 1},
            {0, 1, 1300, 1}, {0, 1, 2300, 0}, {0, 2, 2300, 0}, {0, 1, 2000, 0}, {0, 0, 0, 0}, {0, 0, 3000, 0},
            {1, 2, 1111, 1}, {1, 1, 1111, 0}, {1, 1, 1110, 1}, {1, 1, 1101, 1}, {1, 0, 1010, 0}, {1, 3, 1111, 0},
            {2, 3, 1111, 1}, {2, 2, 1111, 0}, {2, 2, 1011, 1}, {2, 1, 11, 1}, {2, 0, 1, 1}, {2, 3, 2222, 0},
            {3, 0, 0, 1}, {3, 0, 1, 0}, {3, 1, 0, 0}};
        for (int[] row : rows) {
            due("bettiAt(" + row[0] + ", " + row[1] + ", " + row[2] + ")",
                    x.call().bettiAt(row[0], row[1], row[2]), row[3]);
        }
        for (int code : BAD_CODES) {
            due("bettiAt(0, 0, " + code + ")", x.call().bettiAt(0, 0, code), OUTSIDE);
            due("bettiAt(4, 0, " + code + ")", x.call().bettiAt(4, 0, code), UNKNOWN);
        }
        for (int k : BAD_IDEALS) {
            due("bettiAt(bad, 0, 0)", x.call().bettiAt(k, 0, 0), UNKNOWN);
        }
        int sum = 0;
        for (int code = 0; code <= 6666; code++) {
            if (code % 400 == 0) {
                x = with("a2,b2,c2,d2,abc,abd,acd,bcd");
            }
            sum += Math.max(0, x.call().bettiAt(0, 3, code));
        }
        due("all of them", x.call().betti(0, 3), sum);
    }

    private static void shares() {
        promise = 19;
        for (int degree = 0; degree <= 60; degree++) {
            Run x = with("a2,ab,b3", "", "1", "a");
            for (int k = 0; k < 4; k++) {
                int all = x.call().count(1, degree);
                float single = (float) x.call().count(k, degree) / all;
                double twice = (double) x.call().count(k, degree) / all;
                due("share single", x.call().share(k, degree, 0), Float.floatToIntBits(single));
                due("share double", x.call().share(k, degree, 1), Double.doubleToLongBits(twice));
                due("share cut", x.call().share(k, degree, 2), (long) (single * 1000f));
            }
        }
        Run x = with("a2,ab,b3", "", "1", "a");
        due("nothing standard", x.call().share(2, 60, 0), 0);
        due("all standard", x.call().share(1, 60, 0), 0x3f800000L);
        due("all standard, double", x.call().share(1, 60, 1), 0x3ff0000000000000L);
        due("all standard, cut", x.call().share(1, 60, 2), 1000);
        int[] bad = {-1, 3, Integer.MIN_VALUE, Integer.MAX_VALUE};
        for (int what : bad) {
            due("share(0, 0, bad)", x.call().share(0, 0, what), GONE + OUTSIDE);
            due("share(4, 0, bad)", x.call().share(4, 0, what), GONE + UNKNOWN);
        }
        degreesRefused(x);
    }

    private static void holding() {
        promise = 20;
        Run x = with("a,b,c,d3", "a,b");
        boolean[][] takes = {{true, false}, {false, true}, {true, true}};
        for (int shelf = 0; shelf < 3; shelf++) {
            for (int ring = 0; ring < 2; ring++) {
                for (int place = 0; place < 4; place++) {
                    due("hold", x.call().hold(shelf, place, 0, ring == 1), takes[shelf][ring] ? 1 : STATE);
                }
            }
        }
        for (int place = 0; place < 4; place++) {
            due("shelf 0", x.call().told(20 + place), 1);
            due("shelf 1", x.call().told(30 + place), 2);
            due("shelf 2", x.call().told(40 + place), 2);
        }
        due("held again", x.call().hold(2, 1, 1, false), 1);
        due("an ideal now", x.call().told(41), 1);
        due("its generators", x.call().measure(2, 1), 2);
        load(x, 0, "1");
        due("it stays as it is", x.call().measure(0, 3), 4);
        due("the ring, too", x.call().measure(1, 3), 3);
        List<Integer> before = stateOf(x);
        due("refused over what is held", x.call().hold(0, 3, 0, true), STATE);
        due("refused over what is held", x.call().hold(1, 3, 0, false), STATE);
        int[] badShelves = {-1, 3, Integer.MIN_VALUE, Integer.MAX_VALUE};
        for (int k : BAD_IDEALS) {
            due("hold(0, bad, 0)", x.call().hold(0, k, 0, true), UNKNOWN);
            due("hold(0, 0, bad)", x.call().hold(0, 0, k, true), UNKNOWN);
            due("take(0, bad, 0)", x.call().take(0, k, 0), UNKNOWN);
            due("take(1, 0, bad)", x.call().take(1, 0, k), UNKNOWN);
            due("measure(0, bad)", x.call().measure(0, k), UNKNOWN);
        }
        for (int shelf : badShelves) {
            due("hold(bad, 0, 0)", x.call().hold(shelf, 0, 0, true), UNKNOWN);
            due("take(bad, 0, 0)", x.call().take(shelf, 0, 0), UNKNOWN);
            due("measure(bad, 0)", x.call().measure(shelf, 0), UNKNOWN);
        }
        unchanged("hold, take", x, before);
    }

    private static void taking() {
        promise = 21;
        Run x = with("a,b2", "c", "", "1");
        x.call().hold(0, 1, 0, false);
        x.call().hold(2, 3, 1, false);
        x.call().hold(1, 0, 0, true);
        x.call().hold(2, 0, 0, true);
        x.call().hold(2, 1, 2, false);
        due("take(0, 1, 3)", x.call().take(0, 1, 3), 2);
        generatorsAre(x, 3, 200, 1000);
        due("take again", x.call().take(0, 1, 2), 2);
        due("take(2, 3, 0)", x.call().take(2, 3, 0), 1);
        generatorsAre(x, 0, 10);
        due("nothing was held, and is taken", x.call().take(2, 1, 0), 0);
        generatorsAre(x, 0);
        load(x, 3, "d");
        due("what is held does not follow", x.call().take(0, 1, 1), 2);
        List<Integer> before = stateOf(x);
        due("empty", x.call().take(0, 0, 3), NO);
        due("empty", x.call().take(1, 1, 3), NO);
        due("a ring", x.call().take(1, 0, 3), STATE);
        due("a ring", x.call().take(2, 0, 3), STATE);
        due("no such ideal at an empty place", x.call().take(0, 0, 4), UNKNOWN);
        unchanged("take", x, before);
    }

    private static void measuring() {
        promise = 22;
        Run x = with("a2,b2,c2,d2", "a,b,c", "1", "");
        for (int k = 0; k < 4; k++) {
            x.call().hold(0, k, k, false);
            x.call().hold(1, k, k, true);
        }
        int[] generators = {4, 3, 1, 0};
        int[] monomials = {16, NONE, 0, NONE};
        for (int k = 0; k < 4; k++) {
            due("of an ideal", x.call().measure(0, k), generators[k]);
            due("of a ring", x.call().measure(1, k), monomials[k]);
            due("of an empty place", x.call().measure(2, k), NO);
        }
    }

    private static void images() {
        promise = 23;
        Run x = with("a,b2", "c");
        x.call().hold(0, 0, 0, false);
        x.call().hold(2, 2, 1, true);
        said(x, "d,");
        List<Integer> first = stateOf(x);
        due("image(0)", x.call().image(0), 1);
        due("image(1) is not kept by it", x.call().restore(1), STATE);
        x.call().make(0, 0, 1, 0);
        x.call().hold(0, 1, 0, false);
        x.call().hold(0, 0, 1, false);
        due("image(1)", x.call().image(1), 1);
        List<Integer> second = stateOf(x);
        promise = 24;
        due("restore(0)", x.call().restore(0), 1);
        unchanged("it is as it was", x, first);
        due("restore(1)", x.call().restore(1), 1);
        unchanged("it is as it was then", x, second);
        x.call().wipe();
        said(x, "d3");
        due("restore(0) again", x.call().restore(0), 1);
        due("the pad stays", x.call().told(0), 2);
        due("load(3)", x.call().load(3), 1);
        generatorsAre(x, 3, 3);
        due("an image does not follow", x.call().restore(0), 1);
        generatorsAre(x, 3);
        load(x, 2, "abcd");
        due("image(0) anew", x.call().image(0), 1);
        load(x, 2, "");
        due("restore(0)", x.call().restore(0), 1);
        generatorsAre(x, 2, 1111);
        List<Integer> before = stateOf(x);
        int[] bad = {-1, 2, Integer.MIN_VALUE, Integer.MAX_VALUE};
        for (int k : bad) {
            promise = 23;
            due("image(bad)", x.call().image(k), OUTSIDE);
            promise = 24;
            due("restore(bad)", x.call().restore(k), OUTSIDE);
        }
        unchanged("image, restore", x, before);
        due("restore(1) of a new object", new Run().call().restore(1), STATE);
    }

    private static void telling() {
        promise = 25;
        Run x = with("a,b2", "c", "", "1");
        x.call().hold(0, 3, 0, false);
        x.call().hold(1, 2, 0, true);
        x.call().hold(2, 1, 0, true);
        x.call().hold(2, 0, 0, false);
        said(x, "xyz");
        for (int what = -100; what < 200; what++) {
            long want = OUTSIDE;
            if (what == 0) {
                want = 3;
            } else if (what >= 10 && what <= 13) {
                want = new int[] {2, 1, 0, 1}[what - 10];
            } else if (what >= 20 && what < 50 && what % 10 < 4) {
                want = what == 23 || what == 40 ? 1 : what == 32 || what == 41 ? 2 : 0;
            }
            due("told(" + what + ")", x.call().told(what), want);
        }
        due("told(least)", x.call().told(Integer.MIN_VALUE), OUTSIDE);
        due("told(most)", x.call().told(Integer.MAX_VALUE), OUTSIDE);
    }
}
