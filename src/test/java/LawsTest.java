import java.util.ArrayList;
import java.util.Arrays;
import java.util.List;
import java.util.Random;
import java.util.TreeSet;
import java.util.function.Consumer;

/**
 * What the sentences of the document say of all ideals, as laws that the answers must keep among themselves: no answer
 * is written down here. Ideals are some by hand and some by a fixed seed. No object gets more calls than the document
 * allows.
 */
public final class LawsTest {
    private static final int STATE = -3, FULL = -4, NONE = -6;
    private static final int MOST_CALLS = 512;
    private static final int HIGHEST = 6;
    private static final int SEEDED = 24;
    private static final int SUM = 0, MEET = 1, PRODUCT = 2, QUOTIENT = 3, RADICAL = 4;
    private static final String[] BY_HAND = {"", "1", "a", "d6", "a6b6c6d6", "a,b,c,d", "a6,b6,c6,d6", "a2,ab,b3",
        "ab,bc,cd,ad", "ab,ac,ad,bc,bd,cd", "a2,ab,ac,ad", "a6,b6,c6,d6,abcd,a3b3,c3d3", "a2c2,abc2,ab2c",
        "a5b6c6d6,a6b6c5d6", "a2,b2,c2,d2,abc,abd,acd,bcd",
        "c6,ad2,bd2,c3d2,d5", "a6,db2,cb2,a3b2,b5", "d6,ac2,bc2,d3c2,c5", "b6,ca2,da2,b3a2,a5"};

    /** All monomials that have a code. */
    private static final List<int[]> BOX = boxOfAll();

    private static String sentence = "";
    private static int wrong = 0;
    private static int products = 0;

    /** An object that is made anew, by the same changes, when it has got all the calls that it may get. */
    private static final class Run {
        private final List<Consumer<Run>> changes = new ArrayList<>();
        private StairIdeals object = new StairIdeals();
        private int calls = 0;

        StairIdeals call() {
            if (calls == MOST_CALLS) {
                object = new StairIdeals();
                calls = 0;
                for (Consumer<Run> change : changes) {
                    change.accept(this);
                }
            }
            calls++;
            return object;
        }

        Run change(Consumer<Run> change) {
            changes.add(change);
            change.accept(this);
            return this;
        }

        Run load(int ideal, String list) {
            return change(x -> {
                for (int i = 0; i < list.length(); i++) {
                    x.call().say(list.charAt(i));
                }
                x.call().load(ideal);
            });
        }

        List<int[]> generators(int ideal) {
            List<int[]> out = new ArrayList<>();
            int size = call().generator(ideal, -1);
            for (int i = 0; i < size; i++) {
                out.add(exponents(call().generator(ideal, i)));
            }
            return out;
        }

        List<int[]> parts(int ideal) {
            List<int[]> out = new ArrayList<>();
            int size = call().part(ideal, -1);
            for (int i = 0; i < size; i++) {
                out.add(exponents(call().part(ideal, i)));
            }
            return out;
        }

        /** Which monomials with exponents up to 6 are in the ideal, as has tells it. */
        boolean[] members(int ideal) {
            boolean[] out = new boolean[7000];
            for (int[] m : BOX) {
                out[code(m)] = call().has(ideal, code(m)) == 1;
            }
            return out;
        }
    }

    public static void main(String[] args) {
        List<String> lists = new ArrayList<>(List.of(BY_HAND));
        Random random = new Random(20261118);
        for (int n = 0; n < SEEDED; n++) {
            lists.add(seededList(random));
        }
        for (int n = 0; n < lists.size(); n++) {
            String list = lists.get(n);
            steps(list);
            parts(list);
            primaries(list);
            duals(list, random);
            counts(list);
            pivots(list);
            lattices(list);
            holes(list);
            shares(list);
            pairs(list, lists.get((7 * n + 3) % lists.size()));
        }
        due("products that were looked at", products > 0 ? 1 : 0, 1);
        System.out.println(wrong == 0 ? "LawsTest: all laws hold" : wrong + " answers are not as due");
        if (wrong != 0) {
            System.exit(1);
        }
    }

    private static void due(String call, long got, long want) {
        if (got != want) {
            wrong++;
            System.out.println("\"" + sentence + "\": " + call + " is " + got + ", due is " + want);
        }
    }

    // ---- monomials

    private static String seededList(Random random) {
        StringBuilder out = new StringBuilder();
        int terms = 2 + random.nextInt(7);
        int high = 2 + random.nextInt(5);
        for (int t = 0; t < terms; t++) {
            int[] m = new int[4];
            for (int v = 0; v < 4; v++) {
                m[v] = random.nextInt(5) < 3 ? random.nextInt(high + 1) : 0;
            }
            if (code(m) > 0 && out.length() + 1 + text(m).length() <= 60) {
                out.append(out.length() == 0 ? "" : ",").append(text(m));
            }
        }
        return out.toString();
    }

    private static String text(int[] m) {
        StringBuilder out = new StringBuilder();
        for (int v = 0; v < 4; v++) {
            out.append(m[v] > 0 ? "" + "abcd".charAt(v) + m[v] : "");
        }
        return out.length() == 0 ? "1" : out.toString();
    }

    /** Of a list as these tests have it, without a letter twice in a monomial. */
    private static List<int[]> monomials(String list) {
        List<int[]> out = new ArrayList<>();
        for (String term : list.isEmpty() ? new String[0] : list.split(",")) {
            int[] m = new int[4];
            for (int i = 0; i < term.length() && !term.equals("1"); i++) {
                boolean figure = i + 1 < term.length() && Character.isDigit(term.charAt(i + 1));
                m[term.charAt(i) - 'a'] = figure ? term.charAt(i + 1) - '0' : 1;
                i += figure ? 1 : 0;
            }
            out.add(m);
        }
        return out;
    }

    private static List<int[]> boxOfAll() {
        List<int[]> out = new ArrayList<>();
        for (int n = 0; n < 7 * 7 * 7 * 7; n++) {
            out.add(new int[] {n / 343, n / 49 % 7, n / 7 % 7, n % 7});
        }
        return out;
    }

    private static int[] exponents(int code) {
        return new int[] {code / 1000, code / 100 % 10, code / 10 % 10, code % 10};
    }

    private static int code(int[] m) {
        return 1000 * m[0] + 100 * m[1] + 10 * m[2] + m[3];
    }

    private static int degree(int[] m) {
        return m[0] + m[1] + m[2] + m[3];
    }

    private static boolean divides(int[] p, int[] q) {
        return p[0] <= q[0] && p[1] <= q[1] && p[2] <= q[2] && p[3] <= q[3];
    }

    private static int[] common(int[] p, int[] q) {
        int[] out = new int[4];
        Arrays.setAll(out, v -> Math.max(p[v], q[v]));
        return out;
    }

    /** A product; what is above 6 is cut to 6, which is in an ideal just if it is. */
    private static int[] times(int[] p, int[] q) {
        int[] out = new int[4];
        Arrays.setAll(out, v -> Math.min(HIGHEST, p[v] + q[v]));
        return out;
    }

    private static int set(int[] m) {
        int out = 0;
        for (int v = 0; v < 4; v++) {
            out |= m[v] > 0 ? 1 << v : 0;
        }
        return out;
    }

    private static String powers(int[] part) {
        StringBuilder out = new StringBuilder();
        for (int v = 0; v < 4; v++) {
            if (part[v] > 0) {
                out.append(out.length() == 0 ? "" : ",").append("abcd".charAt(v)).append(part[v]);
            }
        }
        return out.toString();
    }

    private static int ofDegree(int degree) {
        return degree < 0 ? 0 : (degree + 1) * (degree + 2) * (degree + 3) / 6;
    }

    // ---- 1

    private static void steps(String list) {
        Run x = new Run().load(0, list);
        List<int[]> generators = x.generators(0);
        sentence = "what lies on a step or beyond it is in, what lies below is standard";
        boolean[] in = x.members(0);
        for (int[] m : BOX) {
            due(list + ": " + code(m) + " is in", in[code(m)] ? 1 : 0, someDivides(generators, m) ? 1 : 0);
        }
        sentence = "its generators are those that no other one divides";
        TreeSet<Integer> least = new TreeSet<>();
        for (int[] m : monomials(list)) {
            boolean stays = true;
            for (int[] other : monomials(list)) {
                stays &= code(other) == code(m) || !divides(other, m);
            }
            if (stays) {
                least.add(code(m));
            }
        }
        due(list + ": generators", generators.size(), least.size());
        int i = 0;
        for (int code : least) {
            due(list + ": generator(0, " + i + ")", x.call().generator(0, i), code);
            i++;
        }
    }

    private static boolean someDivides(List<int[]> generators, int[] m) {
        for (int[] g : generators) {
            if (divides(g, m)) {
                return true;
            }
        }
        return false;
    }

    // ---- 2

    private static void pairs(String one, String two) {
        sentence = "ideals are added, met, multiplied, divided by one another, made radical";
        boolean[][] in = {new Run().load(0, one).members(0), new Run().load(0, two).members(0)};
        for (int how = SUM; how <= RADICAL; how++) {
            int kind = how;
            Run x = new Run().load(0, one).load(1, two);
            int answer = x.call().make(how, 0, 1, 2);
            if (answer == STATE || answer == FULL) {
                continue;
            }
            products += how == PRODUCT ? 1 : 0;
            x.change(y -> y.call().make(kind, 0, 1, 2));
            List<int[]> made = x.generators(2);
            due("make answers how many", answer, made.size());
            List<int[]> by = x.generators(1);
            boolean[] out = x.members(2);
            for (int[] m : BOX) {
                due("make(" + how + ") of " + one + " and " + two + ": " + code(m) + " is in",
                        out[code(m)] ? 1 : 0, isMade(how, in, by, m) ? 1 : 0);
            }
        }
        Run x = new Run().load(0, one).load(1, two);
        int both = x.call().compare(0, 1);
        sentence = "0: both are one; 1: all of K is in J; 2: all of J is in K; 3: neither.";
        boolean inside = true;
        boolean around = true;
        for (int[] m : BOX) {
            inside &= !in[0][code(m)] || in[1][code(m)];
            around &= !in[1][code(m)] || in[0][code(m)];
        }
        due("compare " + one + " and " + two, both, inside ? around ? 0 : 1 : around ? 2 : 3);
    }

    private static boolean isMade(int how, boolean[][] in, List<int[]> by, int[] m) {
        switch (how) {
            case SUM:
                return in[0][code(m)] || in[1][code(m)];
            case MEET:
                return in[0][code(m)] && in[1][code(m)];
            case PRODUCT:
                for (int[] p : BOX) {
                    if (divides(p, m) && in[0][code(p)] && in[1][code(m) - code(p)]) {
                        return true;
                    }
                }
                return false;
            case QUOTIENT:
                for (int[] g : by) {
                    if (!in[0][code(times(g, m))]) {
                        return false;
                    }
                }
                return true;
            default:
                int[] power = m;
                for (int n = 0; n < HIGHEST; n++) {
                    power = times(power, m);
                }
                return in[0][code(power)];
        }
    }

    // ---- 3

    private static Run meetOf(String list, List<int[]> parts, int without) {
        Run x = new Run().load(0, list).load(1, "1");
        for (int n = 0; n < parts.size(); n++) {
            if (n != without) {
                x.load(2, powers(parts.get(n))).change(y -> y.call().make(MEET, 1, 2, 1));
            }
        }
        return x;
    }

    private static void parts(String list) {
        List<int[]> parts = new Run().load(0, list).parts(0);
        sentence = "PARTS of an IDEAL: the fewest IRREDUCIBLE ones of which it is the MEET, by CODES, rising";
        due(list + ": the MEET of its PARTS", meetOf(list, parts, -1).call().compare(0, 1), 0);
        for (int n = 1; n < parts.size(); n++) {
            due(list + ": PARTS rise", code(parts.get(n - 1)) < code(parts.get(n)) ? 1 : 0, 1);
        }
        sentence = "irreducible ones, of which none is too much";
        for (int n = 0; n < parts.size(); n++) {
            due(list + ": the MEET without PART " + n, meetOf(list, parts, n).call().compare(0, 1), 1);
        }
        sentence = "PRIMES: .. those of which PARTS have powers, each once, rising";
        TreeSet<Integer> sets = new TreeSet<>();
        int most = NONE;
        for (int[] part : parts) {
            sets.add(set(part));
            most = Math.max(most, 4 - Integer.bitCount(set(part)));
        }
        Run x = new Run().load(0, list);
        due(list + ": PRIMES", x.call().prime(0, -1), sets.size());
        int i = 0;
        for (int set : sets) {
            due(list + ": prime(0, " + i + ")", x.call().prime(0, i), set);
            i++;
        }
        sentence = "DIMENSION: how many VARIABLES a PART at the most has no power of";
        due(list + ": facts(0, 0)", x.call().facts(0, 0), most);
    }

    private static void primaries(String list) {
        Run x = new Run().load(0, list).load(2, "1");
        int primes = x.call().prime(0, -1);
        for (int n = 0; n < primes; n++) {
            int prime = x.call().prime(0, n);
            sentence = "PRIMARY by a PRIME: the MEET of all PARTS that have powers of just these VARIABLES";
            Run y = new Run().load(0, list);
            List<int[]> same = y.parts(0);
            same.removeIf(part -> set(part) != prime);
            Run z = meetOf(list, same, -1);
            due("it has", z.call().primary(0, prime, 0), z.call().generator(1, -1));
            due(list + ": PRIMARY by " + prime, z.call().compare(0, 1), 0);
            due("one PRIME", z.call().prime(0, -1), 1);
            due("that PRIME", z.call().prime(0, 0), prime);
            x.change(w -> w.call().primary(0, prime, 1)).change(w -> w.call().make(MEET, 1, 2, 2));
        }
        sentence = "each is the meeting .. of primary ones, by its primes";
        due(list + ": all primary ones met", x.call().compare(0, 2), 0);
    }

    private static void duals(String list, Random random) {
        int[] least = new int[4];
        Run x = new Run().load(0, list);
        for (int[] g : x.generators(0)) {
            least = common(least, g);
        }
        List<int[]> parts = x.parts(0);
        for (int turn = 0; turn < 3; turn++) {
            int[] high = least.clone();
            for (int v = 0; v < 4; v++) {
                high[v] += turn == 0 ? 0 : random.nextInt(HIGHEST - high[v] + 1);
            }
            sentence = "its dual, against a monomial that is high enough, has a generator for each irreducible part";
            Run y = new Run().load(0, list);
            due(list + ": dual against " + code(high), y.call().dual(0, code(high), 1), parts.size());
            TreeSet<Integer> due = new TreeSet<>();
            for (int[] part : parts) {
                int[] g = new int[4];
                Arrays.setAll(g, v -> part[v] > 0 ? high[v] + 1 - part[v] : 0);
                due.add(code(g));
            }
            int i = 0;
            for (int code : due) {
                due(list + ": dual against " + code(high) + ", generator " + i, y.call().generator(1, i), code);
                i++;
            }
            sentence = "the dual of the dual is the ideal again";
            due(list + ": the dual's dual", y.call().dual(1, code(high), 1), y.call().generator(0, -1));
            due(list + ": the dual's dual against " + code(high), y.call().compare(0, 1), 0);
        }
    }

    // ---- 4

    private static void counts(String list) {
        Run x = new Run().load(0, list);
        boolean[] in = x.members(0);
        int[] counts = new int[61];
        int[] factors = new int[61];
        for (int n = 0; n <= 60; n++) {
            counts[n] = x.call().count(0, n);
            factors[n] = x.call().series(0, n);
        }
        sentence = "COUNT of a DEGREE: how many MONOMIALS of it are STANDARD";
        int[] seen = new int[25];
        int size = 0;
        for (int[] m : BOX) {
            seen[degree(m)] += in[code(m)] ? 0 : 1;
            size += in[code(m)] ? 0 : 1;
        }
        for (int degree = 0; degree <= HIGHEST; degree++) {
            due(list + ": count(0, " + degree + ")", counts[degree], seen[degree]);
        }
        sentence = "the sum of all COUNTS, each times t to the DEGREE, times (1 - t) to the fourth";
        int[] fourth = {1, -4, 6, -4, 1};
        for (int power = 0; power <= 60; power++) {
            int due = 0;
            for (int n = 0; n <= 4 && n <= power; n++) {
                due += fourth[n] * counts[power - n];
            }
            due(list + ": series(0, " + power + ")", factors[power], due);
        }
        sentence = "which polynomial tells them all";
        for (int degree = 0; degree <= 60; degree++) {
            int told = 0;
            for (int power = 0; power <= degree; power++) {
                told += factors[power] * ofDegree(degree - power);
            }
            due(list + ": count(0, " + degree + ")", counts[degree], told);
        }
        sentence = "SIZE: if the DIMENSION is 0, how many MONOMIALS are STANDARD";
        int dimension = x.call().facts(0, 0);
        due(list + ": facts(0, 1)", x.call().facts(0, 1), dimension > 0 ? NONE : size);
        due("the last COUNT is nothing", counts[60] == 0 ? 1 : 0, dimension > 0 ? 0 : 1);
        sentence = "A RING is held by an IDEAL: it is all that is STANDARD";
        x.call().hold(1, 0, 0, true);
        due(list + ": measure(1, 0)", x.call().measure(1, 0), dimension > 0 ? NONE : size);
    }

    private static void pivots(String list) {
        Run x = new Run().load(0, list);
        List<int[]> generators = x.generators(0);
        int pivot = NONE;
        int most = 0;
        boolean leaf = true;
        for (int v = 0; v < 4; v++) {
            int times = 0;
            for (int[] g : generators) {
                times += g[v] > 0 ? 1 : 0;
            }
            leaf &= times <= 1;
            pivot = times > most ? v : pivot;
            most = Math.max(most, times);
        }
        if (leaf) {
            sentence = "if each two of its GENERATORS have no VARIABLE in common, a LEAF";
            due(list + ": facts(0, 2)", x.call().facts(0, 2), 0);
            due(list + ": facts(0, 3)", x.call().facts(0, 3), 0);
            return;
        }
        x.load(1, "" + "abcd".charAt(pivot)).change(y -> y.call().make(SUM, 0, 1, 2))
                .change(y -> y.call().make(QUOTIENT, 0, 1, 3));
        sentence = "below it are the TREES of two IDEALS";
        due(list + ": PIVOTS", x.call().facts(0, 2), 1 + x.call().facts(2, 2) + x.call().facts(3, 2));
        due(list + ": in one another", x.call().facts(0, 3),
                1 + Math.max(x.call().facts(2, 3), x.call().facts(3, 3)));
        sentence = "counted by pivots";
        for (int n = 0; n <= 60; n++) {
            due(list + ": count(0, " + n + ")", x.call().count(0, n),
                    x.call().count(2, n) + (n == 0 ? 0 : x.call().count(3, n - 1)));
        }
    }

    private static TreeSet<Integer> lattice(List<int[]> generators) {
        TreeSet<Integer> out = new TreeSet<>();
        for (int[] g : generators) {
            TreeSet<Integer> more = new TreeSet<>(List.of(code(g)));
            for (int code : out) {
                more.add(code(common(exponents(code), g)));
            }
            out.addAll(more);
        }
        return out;
    }

    private static void lattices(String list) {
        sentence = "LATTICE: how many MONOMIALS are least common multiples of GENERATORS";
        Run x = new Run().load(0, list);
        due(list + ": facts(0, 4)", x.call().facts(0, 4), lattice(x.generators(0)).size());
    }

    private static void holes(String list) {
        Run x = new Run().load(0, list);
        List<int[]> generators = x.generators(0);
        TreeSet<Integer> lattice = lattice(generators);
        int[] sums = new int[4];
        int[] factors = new int[25];
        factors[0] = 1;
        for (int[] m : BOX) {
            for (int i = 0; i < 4; i++) {
                int holes = x.call().bettiAt(0, i, code(m));
                sums[i] += holes;
                factors[degree(m)] += i % 2 == 0 ? -holes : holes;
                sentence = "At any other M 0";
                due(list + ": bettiAt(0, " + i + ", " + code(m) + ")", lattice.contains(code(m)) || holes == 0 ? 1 : 0,
                        1);
                sentence = "of i = 0: 1, if no single VARIABLE is a SHEET";
                if (i == 0) {
                    due(list + ": bettiAt(0, 0, " + code(m) + ")", holes, isAmong(generators, m) ? 1 : 0);
                }
            }
        }
        sentence = "BETTI i of all: at all M of the LATTICE, added";
        for (int i = 0; i < 4; i++) {
            due(list + ": betti(0, " + i + ")", x.call().betti(0, i), sums[i]);
        }
        sentence = "how generators hang together .. two, three, four at once: by turns added and taken, the polynomial";
        for (int power = 0; power <= 24; power++) {
            due(list + ": series(0, " + power + ")", x.call().series(0, power), factors[power]);
        }
    }

    private static boolean isAmong(List<int[]> list, int[] m) {
        for (int[] one : list) {
            if (code(one) == code(m)) {
                return true;
            }
        }
        return false;
    }

    private static void shares(String list) {
        sentence = "SHARE of a DEGREE: COUNT by how many MONOMIALS of it there are at all";
        Run x = new Run().load(0, list);
        for (int degree = 0; degree <= 60; degree++) {
            int count = x.call().count(0, degree);
            float single = (float) count / ofDegree(degree);
            double twice = (double) count / ofDegree(degree);
            due(list + ": share(0, " + degree + ", 0)", x.call().share(0, degree, 0), Float.floatToIntBits(single));
            due(list + ": share(0, " + degree + ", 1)", x.call().share(0, degree, 1), Double.doubleToLongBits(twice));
            due(list + ": share(0, " + degree + ", 2)", x.call().share(0, degree, 2), (long) (single * 1000f));
        }
    }
}
