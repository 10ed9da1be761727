import java.math.BigDecimal;
import java.math.MathContext;
import java.util.ArrayList;
import java.util.Arrays;
import java.util.HashMap;
import java.util.HashSet;
import java.util.List;
import java.util.Map;
import java.util.Random;
import java.util.Set;
import java.util.TreeSet;

/** Runs of calls with fixed seeds, each answer beside that of a slow model that follows the document's words. */
public final class ModelTest {
    private static final int UNKNOWN = -1, OUTSIDE = -2, STATE = -3, FULL = -4, NO = -5, NONE = -6;
    private static final long GONE = -1000000000000000000L;
    /** Has 20 generators, but more than 40 has what is primary by all four variables. */
    private static final String[] MANY_INSIDE = {
        "b6c2d,a3c6d2,a2b2d5,c5d3,bc4d6,a4d4,a5c2d2,a6cd3,b5d3,a2bc4",
        "ab2c2d2,a3bcd3,a2b4c,a6bc3d,a4c3d2,a5b2c3,ab2c3d,a3b2c2d2",
        "b3c3d2,a2bc3d2,a3b3d3,ab5c3d4"};
    private static final int MOST_CALLS = 512;
    private static int wrong = 0;
    private static int ended = 0;
    private static final Map<String, Integer> answers = new HashMap<>();

    /** The object of a run has got all the calls that it may get. */
    private static final class Ended extends RuntimeException {
        private static final long serialVersionUID = 1L;
    }

    public static void main(String[] args) {
        int runs = args.length > 0 ? Integer.parseInt(args[0]) : 500;
        for (int seed = 1; seed <= runs && wrong < 20; seed++) {
            new Run(seed).play();
        }
        if (ended != runs && wrong == 0) {
            wrong++;
            System.out.println(ended + " of " + runs + " runs made all their calls");
        }
        if (args.length > 1) {
            System.out.println(new java.util.TreeMap<>(answers));
        }
        tellRefusals();
        System.out.println(wrong == 0 ? "ModelTest: all answers are as due" : wrong + " answers are not as due");
        if (wrong != 0) {
            System.exit(1);
        }
    }

    /** A run that never reaches a refusal or an ordinary answer would prove nothing of it. */
    private static void tellRefusals() {
        String[] needed = {"say OUTSIDE", "say FULL", "load NO", "load UNKNOWN", "generator NONE", "has OUTSIDE",
            "make UNKNOWN", "make OUTSIDE", "make STATE", "make FULL", "part NONE", "prime NONE", "primary STATE",
            "primary FULL", "dual OUTSIDE", "dual STATE", "dual FULL", "facts NONE", "hold STATE", "take NO",
            "take STATE",
            "measure NO", "measure NONE", "image OUTSIDE", "make harmless", "restore STATE", "told OUTSIDE",
            "make ok", "primary ok", "dual ok", "take ok", "measure ok", "restore ok"};
        for (String name : needed) {
            if (!answers.containsKey(name)) {
                wrong++;
                System.out.println("no run reached: " + name);
            }
        }
    }

    private static final class Run {
        final int seed;
        final Random random;
        private final StairIdeals object = new StairIdeals();
        final Model m = new Model();
        int calls = 0;

        Run(int seed) {
            this.seed = seed;
            this.random = new Random(seed);
        }

        /** What later calls answer is free: so the run ends ahead of them, wherever it is. */
        StairIdeals x() {
            if (calls == MOST_CALLS) {
                throw new Ended();
            }
            calls++;
            return object;
        }

        void play() {
            try {
                if (seed % 3 == 0) {
                    tellWide();
                }
                for (int step = 0; step < MOST_CALLS; step++) {
                    goOn();
                }
            } catch (Ended e) {
                ended++;
            }
        }

        void goOn() {
            int pick = random.nextInt(20);
            if (pick == 0) {
                tellCrossed();
            } else if (pick < 4) {
                tellList();
            } else if (pick < 9) {
                change();
            } else if (pick < 14) {
                shelve();
                shelve();
                shelve();
            } else {
                look();
            }
        }

        void due(String call, long got, long want, String name) {
            String[] words = {"", "UNKNOWN", "OUTSIDE", "STATE", "FULL", "NO", "NONE"};
            answers.merge(name + " " + (want < 0 && want > -7 ? words[(int) -want] : "ok"), 1, Integer::sum);
            if (got != want) {
                wrong++;
                System.out.println("seed " + seed + " call " + calls + ": " + call + " answered " + got + ", due is "
                        + want);
            }
        }

        int ideal() {
            return random.nextInt(40) == 0 ? (random.nextBoolean() ? -1 : 4) : random.nextInt(4);
        }

        int near(int low, int high) {
            return low - 1 + random.nextInt(high - low + 3);
        }

        int code() {
            if (random.nextInt(30) == 0) {
                int[] odd = {-1, 7, 70, 700, 7000, 6667, 10000, 1111111, Integer.MIN_VALUE, Integer.MAX_VALUE, -1000};
                return odd[random.nextInt(odd.length)];
            }
            return random.nextInt(7) * 1000 + random.nextInt(7) * 100 + random.nextInt(7) * 10 + random.nextInt(7);
        }

        void say(int sign) {
            due("say(" + sign + ")", x().say(sign), m.say(sign), "say");
        }

        void tellList() {
            int terms = random.nextInt(4) == 0 ? 10 + random.nextInt(9) : 1 + random.nextInt(5);
            int high = 1 + random.nextInt(6);
            boolean rough = random.nextInt(4) == 0;
            StringBuilder text = new StringBuilder();
            for (int t = 0; t < terms; t++) {
                if (t > 0) {
                    text.append(',');
                }
                int before = text.length();
                for (int v = 0; v < 4; v++) {
                    int e = random.nextInt(3) == 0 ? random.nextInt(high + 1) : 0;
                    if (e > 0) {
                        text.append((char) ('a' + v));
                        if (e > 1) {
                            text.append((char) ('0' + e));
                        }
                    }
                }
                if (text.length() == before) {
                    text.append(random.nextInt(10) == 0 ? "1" : "a" + (char) ('1' + random.nextInt(6)));
                }
            }
            String signs = "ab,1cd236,7 0e!~";
            if (rough) {
                for (int n = 0; n < 2; n++) {
                    int at = random.nextInt(text.length() + 1);
                    text.insert(at, signs.charAt(random.nextInt(signs.length())));
                }
            }
            if (random.nextInt(12) == 0) {
                text.setLength(0);
            }
            for (int n = 0; n < text.length(); n++) {
                say(text.charAt(n));
                if (rough) {
                    due("fault()", x().fault(), m.fault(), "fault");
                }
            }
            due("fault()", x().fault(), m.fault(), "fault");
            due("told(0)", x().told(0), m.pad.size(), "told");
            int to = ideal();
            due("load(" + to + ") of " + text, x().load(to), m.load(to), "load");
            if (random.nextInt(2) == 0 || m.fault() != NONE) {
                due("wipe()", x().wipe(), m.wipe(), "wipe");
            }
            same();
        }

        /** Products of which some may be too high, and yet beyond another product. */
        void tellCrossed() {
            due("wipe()", x().wipe(), m.wipe(), "wipe");
            int high = random.nextInt(4);
            for (int k = 0; k < 2; k++) {
                StringBuilder text = new StringBuilder();
                int terms = 2 + random.nextInt(2);
                for (int t = 0; t < terms; t++) {
                    text.append(t > 0 ? "," : "").append((char) ('a' + high)).append(4 - random.nextInt(4));
                    text.append((char) ('a' + (high + 1 + random.nextInt(3)) % 4)).append(1 + random.nextInt(2));
                }
                for (int n = 0; n < text.length(); n++) {
                    say(text.charAt(n));
                }
                due("load(" + k + ") of " + text, x().load(k), m.load(k), "load");
            }
            due("make(2,0,1,2)", x().make(2, 0, 1, 2), m.make(2, 0, 1, 2), "make");
            due("make(2,1,0,3)", x().make(2, 1, 0, 3), m.make(2, 1, 0, 3), "make");
            due("compare(2,3)", x().compare(2, 3), m.compare(2, 3), "compare");
            same();
        }

        /** Many generators of one degree, of which none divides another: so that sums and duals grow full. */
        void tellWide() {
            int degree = 6 + random.nextInt(6);
            int lists = 3 + random.nextInt(5);
            due("wipe()", x().wipe(), m.wipe(), "wipe");
            boolean known = random.nextInt(6) == 0;
            for (int t = 0; t < lists; t++) {
                StringBuilder text = new StringBuilder(known && t < 3 ? MANY_INSIDE[t] : "");
                for (int n = 0; n < 7 && text.length() <= 51 && !known; n++) {
                    int[] e = new int[4];
                    for (int d = 0; d < degree; d++) {
                        int v = random.nextInt(4);
                        e[v] = Math.min(6, e[v] + 1);
                    }
                    text.append(n > 0 ? "," : "");
                    for (int v = 0; v < 4; v++) {
                        text.append(e[v] > 0 ? "" + (char) ('a' + v) : "").append(e[v] > 1 ? "" + e[v] : "");
                    }
                }
                for (int n = 0; n < text.length(); n++) {
                    say(text.charAt(n));
                }
                due("load(0) of " + text, x().load(0), m.load(0), "load");
                int k = t == 0 ? 0 : 2;
                due("make(0,0," + k + ",2)", x().make(0, 0, k, 2), m.make(0, 0, k, 2), "make");
            }
            for (int how = 1; how < 4; how++) {
                due("make(" + how + ",2,0,1)", x().make(how, 2, 0, 1), m.make(how, 2, 0, 1), "make");
            }
            due("dual(2,6666,0)", x().dual(2, 6666, 0), m.dual(2, 6666, 0), "dual");
            due("primary(2,15,0)", x().primary(2, 15, 0), m.primary(2, 15, 0), "primary");
            for (int i = 0; i < 4; i++) {
                due("betti(2," + i + ")", x().betti(2, i), m.betti(2, i), "betti");
                due("facts(2," + i + ")", x().facts(2, i), m.facts(2, i), "facts");
            }
            same();
        }

        void change() {
            int pick = random.nextInt(10);
            int k = ideal();
            int j = ideal();
            int to = ideal();
            if (pick < 6) {
                int how = random.nextInt(30) == 0 ? near(0, 4) : random.nextInt(5);
                due("make(" + how + "," + k + "," + j + "," + to + ")", x().make(how, k, j, to), m.make(how, k, j, to),
                        "make");
            } else if (pick < 8) {
                int prime = random.nextInt(16);
                if (m.isIdeal(k) && random.nextInt(4) > 0) {
                    List<Integer> primes = m.primes(m.ideals[k]);
                    prime = primes.isEmpty() ? 3 : primes.get(random.nextInt(primes.size()));
                } else if (random.nextInt(5) == 0) {
                    int[] odd = {-1, 16, 32, 35, -32, Integer.MIN_VALUE, Integer.MAX_VALUE};
                    prime = odd[random.nextInt(odd.length)];
                }
                due("primary(" + k + "," + prime + "," + to + ")", x().primary(k, prime, to), m.primary(k, prime, to),
                        "primary");
            } else {
                int c = random.nextInt(3) == 0 ? code() : 6666;
                if (m.isIdeal(k) && random.nextInt(3) == 0) {
                    c = m.lcmCode(m.ideals[k]);
                }
                due("dual(" + k + "," + c + "," + to + ")", x().dual(k, c, to), m.dual(k, c, to), "dual");
            }
            same();
        }

        void shelve() {
            int shelf = random.nextInt(25) == 0 ? near(0, 2) : random.nextInt(3);
            int place = random.nextInt(25) == 0 ? near(0, 3) : random.nextInt(4);
            int ideal = ideal();
            int pick = random.nextInt(10);
            if (pick < 4) {
                boolean ring = random.nextBoolean();
                due("hold(" + shelf + "," + place + "," + ideal + "," + ring + ")", x().hold(shelf, place, ideal, ring),
                        m.hold(shelf, place, ideal, ring), "hold");
            } else if (pick < 6) {
                due("take(" + shelf + "," + place + "," + ideal + ")", x().take(shelf, place, ideal),
                        m.take(shelf, place, ideal), "take");
            } else if (pick < 8) {
                due("measure(" + shelf + "," + place + ")", x().measure(shelf, place), m.measure(shelf, place),
                        "measure");
            } else {
                int k = random.nextInt(12) == 0 ? near(0, 1) : random.nextInt(2);
                if (random.nextBoolean()) {
                    due("image(" + k + ")", x().image(k), m.image(k), "image");
                } else {
                    due("restore(" + k + ")", x().restore(k), m.restore(k), "restore");
                }
            }
            same();
        }

        void look() {
            int k = ideal();
            int j = ideal();
            int i = near(-1, 8);
            due("compare(" + k + "," + j + ")", x().compare(k, j), m.compare(k, j), "compare");
            due("generator(" + k + "," + i + ")", x().generator(k, i), m.generator(k, i), "generator");
            due("part(" + k + "," + i + ")", x().part(k, i), m.part(k, i), "part");
            due("prime(" + k + "," + i + ")", x().prime(k, i), m.prime(k, i), "prime");
            int c = code();
            due("has(" + k + "," + c + ")", x().has(k, c), m.has(k, c), "has");
            int degree = random.nextInt(3) == 0 ? near(0, 60) : random.nextInt(26);
            due("count(" + k + "," + degree + ")", x().count(k, degree), m.count(k, degree), "count");
            due("series(" + k + "," + degree + ")", x().series(k, degree), m.series(k, degree), "series");
            int what = near(0, 2);
            due("share(" + k + "," + degree + "," + what + ")", x().share(k, degree, what), m.share(k, degree, what),
                    "share");
            what = near(0, 4);
            due("facts(" + k + "," + what + ")", x().facts(k, what), m.facts(k, what), "facts");
            i = near(0, 3);
            due("betti(" + k + "," + i + ")", x().betti(k, i), m.betti(k, i), "betti");
            if (m.isIdeal(k) && random.nextInt(3) > 0) {
                List<Integer> all = new ArrayList<>(m.lattice(m.ideals[k]));
                c = all.isEmpty() ? c : all.get(random.nextInt(all.size()));
            }
            due("bettiAt(" + k + "," + i + "," + c + ")", x().bettiAt(k, i, c), m.bettiAt(k, i, c), "bettiAt");
            int t = random.nextInt(50) - 2;
            due("told(" + t + ")", x().told(t), m.told(t), "told");
        }

        /** Looks at a part of the state after each change, and at much more of it now and then. */
        void same() {
            int k = random.nextInt(4);
            due("generator(" + k + ",-1)", x().generator(k, -1), m.generator(k, -1), "generator");
            int size = m.ideals[k].size();
            if (size > 0) {
                int i = random.nextInt(size);
                due("generator(" + k + "," + i + ")", x().generator(k, i), m.generator(k, i), "generator");
            }
            int pick = random.nextInt(40);
            if (pick < 3) {
                everything(k);
            } else if (pick == 3) {
                toldOfAll();
            }
        }

        void everything(int k) {
            for (int i = -1; i <= m.ideals[k].size(); i++) {
                due("generator(" + k + "," + i + ")", x().generator(k, i), m.generator(k, i), "generator");
            }
            int parts = m.parts(m.ideals[k]).size();
            for (int i = -1; i <= parts; i++) {
                due("part(" + k + "," + i + ")", x().part(k, i), m.part(k, i), "part");
            }
            for (int i = -1; i <= 16; i++) {
                due("prime(" + k + "," + i + ")", x().prime(k, i), m.prime(k, i), "prime");
            }
            for (int d = 0; d <= 26; d++) {
                due("series(" + k + "," + d + ")", x().series(k, d), m.series(k, d), "series");
            }
            for (int w = 0; w < 5; w++) {
                due("facts(" + k + "," + w + ")", x().facts(k, w), m.facts(k, w), "facts");
            }
            for (int i = 0; i < 4; i++) {
                due("betti(" + k + "," + i + ")", x().betti(k, i), m.betti(k, i), "betti");
            }
        }

        void toldOfAll() {
            for (int w = 0; w < 60; w++) {
                due("told(" + w + ")", x().told(w), m.told(w), "told");
            }
        }
    }

    /** The document's words, with lists of exponents and no thought of speed. */
    private static final class Model {
        List<int[]>[] ideals = none(4);
        List<int[]>[] held = none(12);
        int[] kinds = new int[12];
        final List<Integer> pad = new ArrayList<>();
        final Object[][] images = new Object[2][];

        @SuppressWarnings("unchecked")
        static List<int[]>[] none(int n) {
            List<int[]>[] all = (List<int[]>[]) new List<?>[n];
            for (int i = 0; i < n; i++) {
                all[i] = List.of();
            }
            return all;
        }

        boolean isIdeal(int k) {
            return k >= 0 && k <= 3;
        }

        static boolean isCode(int code) {
            return code >= 0 && code < 10000 && String.format("%04d", code).matches("[0-6]{4}");
        }

        static int[] ofCode(int code) {
            return new int[] {code / 1000, code / 100 % 10, code / 10 % 10, code % 10};
        }

        static int toCode(int[] e) {
            return e[0] * 1000 + e[1] * 100 + e[2] * 10 + e[3];
        }

        static boolean divides(int[] p, int[] q) {
            return p[0] <= q[0] && p[1] <= q[1] && p[2] <= q[2] && p[3] <= q[3];
        }

        static boolean in(List<int[]> ideal, int[] m) {
            for (int[] g : ideal) {
                if (divides(g, m)) {
                    return true;
                }
            }
            return false;
        }

        static int[] lcm(int[] p, int[] q) {
            return new int[] {Math.max(p[0], q[0]), Math.max(p[1], q[1]), Math.max(p[2], q[2]), Math.max(p[3], q[3])};
        }

        static int[] times(int[] p, int[] q) {
            return new int[] {p[0] + q[0], p[1] + q[1], p[2] + q[2], p[3] + q[3]};
        }

        static List<int[]> least(List<int[]> list) {
            List<int[]> out = new ArrayList<>();
            for (int i = 0; i < list.size(); i++) {
                boolean stays = true;
                for (int n = 0; n < list.size() && stays; n++) {
                    boolean same = Arrays.equals(list.get(n), list.get(i));
                    if (same ? n < i : divides(list.get(n), list.get(i))) {
                        stays = false;
                    }
                }
                if (stays) {
                    out.add(list.get(i));
                }
            }
            out.sort((p, q) -> Arrays.compare(p, q));
            return out;
        }

        int say(int sign) {
            if (sign < 33 || sign > 126) {
                return OUTSIDE;
            }
            if (pad.size() == 60) {
                return FULL;
            }
            pad.add(sign);
            return pad.size();
        }

        int wipe() {
            int n = pad.size();
            pad.clear();
            return n;
        }

        /** A start that can be gone on with: the longest such start is where the fault is. */
        static boolean canBegin(String text) {
            String[] terms = text.split(",", -1);
            for (int i = 0; i < terms.length; i++) {
                boolean last = i == terms.length - 1;
                if (terms[i].isEmpty() && !last) {
                    return false;
                }
                if (!terms[i].isEmpty() && exponents(terms[i]) == null) {
                    return false;
                }
            }
            return true;
        }

        static int[] exponents(String term) {
            if (term.equals("1")) {
                return new int[4];
            }
            if (!term.matches("([a-d][1-6]?)+")) {
                return null;
            }
            int[] e = new int[4];
            for (int i = 0; i < term.length(); i++) {
                int times = 1;
                int v = term.charAt(i) - 'a';
                if (i + 1 < term.length() && Character.isDigit(term.charAt(i + 1))) {
                    i++;
                    times = term.charAt(i) - '0';
                }
                e[v] += times;
                if (e[v] > 6) {
                    return null;
                }
            }
            return e;
        }

        String text() {
            StringBuilder out = new StringBuilder();
            for (int sign : pad) {
                out.append((char) sign);
            }
            return out.toString();
        }

        int fault() {
            String text = text();
            if (text.isEmpty()) {
                return NONE;
            }
            for (int n = 1; n <= text.length(); n++) {
                if (!canBegin(text.substring(0, n))) {
                    return n - 1;
                }
            }
            return text.endsWith(",") ? text.length() : NONE;
        }

        int load(int k) {
            if (!isIdeal(k)) {
                return UNKNOWN;
            }
            if (fault() != NONE) {
                return NO;
            }
            List<int[]> list = new ArrayList<>();
            if (!pad.isEmpty()) {
                for (String term : text().split(",")) {
                    list.add(exponents(term));
                }
            }
            pad.clear();
            ideals[k] = least(list);
            return ideals[k].size();
        }

        int generator(int k, int i) {
            if (!isIdeal(k)) {
                return UNKNOWN;
            }
            if (i == -1) {
                return ideals[k].size();
            }
            return i < 0 || i >= ideals[k].size() ? NONE : toCode(ideals[k].get(i));
        }

        int has(int k, int code) {
            if (!isIdeal(k)) {
                return UNKNOWN;
            }
            if (!isCode(code)) {
                return OUTSIDE;
            }
            return in(ideals[k], ofCode(code)) ? 1 : 0;
        }

        int make(int how, int k, int j, int to) {
            if (!isIdeal(k) || !isIdeal(j) || !isIdeal(to)) {
                return UNKNOWN;
            }
            if (how < 0 || how > 4) {
                return OUTSIDE;
            }
            List<int[]> list = new ArrayList<>();
            List<int[]> a = ideals[k];
            List<int[]> b = ideals[j];
            if (how == 0) {
                list.addAll(a);
                list.addAll(b);
            } else if (how == 1 || how == 2) {
                for (int[] p : a) {
                    for (int[] q : b) {
                        list.add(how == 1 ? lcm(p, q) : times(p, q));
                    }
                }
            } else if (how == 3) {
                for (int[] m : box(6)) {
                    boolean all = true;
                    for (int[] q : b) {
                        all &= in(a, times(m, q));
                    }
                    if (all && !in(list, m)) {
                        list.add(m);
                    }
                }
            } else {
                for (int[] m : box(1)) {
                    if (in(a, new int[] {7 * m[0], 7 * m[1], 7 * m[2], 7 * m[3]})) {
                        list.add(m);
                    }
                }
            }
            boolean highBefore = isHigh(list);
            list = least(list);
            if (isHigh(list)) {
                return STATE;
            }
            if (highBefore) {
                answers.merge("make harmless", 1, Integer::sum);
            }
            return put(list, to);
        }

        static boolean isHigh(List<int[]> list) {
            for (int[] m : list) {
                for (int e : m) {
                    if (e > 6) {
                        return true;
                    }
                }
            }
            return false;
        }

        int put(List<int[]> list, int to) {
            if (list.size() > 40) {
                return FULL;
            }
            ideals[to] = list;
            return list.size();
        }

        static List<int[]> box(int high) {
            List<int[]> out = new ArrayList<>();
            for (int a = 0; a <= high; a++) {
                for (int b = 0; b <= high; b++) {
                    for (int c = 0; c <= high; c++) {
                        for (int d = 0; d <= high; d++) {
                            out.add(new int[] {a, b, c, d});
                        }
                    }
                }
            }
            return out;
        }

        static boolean within(List<int[]> a, List<int[]> b) {
            for (int[] p : a) {
                if (!in(b, p)) {
                    return false;
                }
            }
            return true;
        }

        int compare(int k, int j) {
            if (!isIdeal(k) || !isIdeal(j)) {
                return UNKNOWN;
            }
            boolean one = within(ideals[k], ideals[j]);
            boolean two = within(ideals[j], ideals[k]);
            return one && two ? 0 : one ? 1 : two ? 2 : 3;
        }

        static boolean inPart(int[] part, int[] m) {
            for (int v = 0; v < 4; v++) {
                if (part[v] > 0 && m[v] >= part[v]) {
                    return true;
                }
            }
            return false;
        }

        static List<int[]> powers(int[] part) {
            List<int[]> out = new ArrayList<>();
            for (int v = 0; v < 4; v++) {
                if (part[v] > 0) {
                    int[] p = new int[4];
                    p[v] = part[v];
                    out.add(p);
                }
            }
            return out;
        }

        static boolean partWithin(int[] one, int[] other) {
            for (int[] p : powers(one)) {
                if (!inPart(other, p)) {
                    return false;
                }
            }
            return true;
        }

        private List<int[]> partsOf = null;
        private List<int[]> partsAre = null;

        /** Each generator in turn parts those that do not have it yet; what holds another part is too much. */
        List<int[]> parts(List<int[]> ideal) {
            if (partsOf == ideal) {
                return partsAre;
            }
            List<int[]> parts = new ArrayList<>();
            parts.add(new int[4]);
            for (int[] g : ideal) {
                List<int[]> next = new ArrayList<>();
                for (int[] part : parts) {
                    if (inPart(part, g)) {
                        next.add(part);
                        continue;
                    }
                    for (int v = 0; v < 4; v++) {
                        if (g[v] > 0) {
                            int[] more = part.clone();
                            more[v] = g[v];
                            next.add(more);
                        }
                    }
                }
                parts = new ArrayList<>();
                for (int i = 0; i < next.size(); i++) {
                    boolean stays = true;
                    for (int n = 0; n < next.size() && stays; n++) {
                        boolean same = Arrays.equals(next.get(i), next.get(n));
                        stays = !(same ? n < i : partWithin(next.get(n), next.get(i)));
                    }
                    if (stays) {
                        parts.add(next.get(i));
                    }
                }
            }
            parts.sort((p, q) -> Arrays.compare(p, q));
            partsOf = ideal;
            partsAre = parts;
            return parts;
        }

        int part(int k, int i) {
            if (!isIdeal(k)) {
                return UNKNOWN;
            }
            List<int[]> all = parts(ideals[k]);
            if (i == -1) {
                return all.size();
            }
            return i < 0 || i >= all.size() ? NONE : toCode(all.get(i));
        }

        static int set(int[] part) {
            int bits = 0;
            for (int v = 0; v < 4; v++) {
                bits += part[v] > 0 ? 1 << v : 0;
            }
            return bits;
        }

        List<Integer> primes(List<int[]> ideal) {
            TreeSet<Integer> out = new TreeSet<>();
            for (int[] part : parts(ideal)) {
                out.add(set(part));
            }
            return new ArrayList<>(out);
        }

        int prime(int k, int i) {
            if (!isIdeal(k)) {
                return UNKNOWN;
            }
            List<Integer> all = primes(ideals[k]);
            if (i == -1) {
                return all.size();
            }
            return i < 0 || i >= all.size() ? NONE : all.get(i);
        }

        int primary(int k, int prime, int to) {
            if (!isIdeal(k) || !isIdeal(to)) {
                return UNKNOWN;
            }
            if (!primes(ideals[k]).contains(prime)) {
                return STATE;
            }
            List<int[]> meet = List.of(new int[4]);
            for (int[] part : parts(ideals[k])) {
                if (set(part) == prime) {
                    List<int[]> next = new ArrayList<>();
                    for (int[] p : meet) {
                        for (int[] q : powers(part)) {
                            next.add(lcm(p, q));
                        }
                    }
                    meet = least(next);
                }
            }
            return put(meet, to);
        }

        int lcmCode(List<int[]> ideal) {
            int[] all = new int[4];
            for (int[] g : ideal) {
                all = lcm(all, g);
            }
            return toCode(all);
        }

        int dual(int k, int code, int to) {
            if (!isIdeal(k) || !isIdeal(to)) {
                return UNKNOWN;
            }
            if (!isCode(code)) {
                return OUTSIDE;
            }
            int[] high = ofCode(code);
            for (int[] g : ideals[k]) {
                if (!divides(g, high)) {
                    return STATE;
                }
            }
            List<int[]> list = new ArrayList<>();
            for (int[] part : parts(ideals[k])) {
                int[] g = new int[4];
                for (int v = 0; v < 4; v++) {
                    g[v] = part[v] > 0 ? high[v] + 1 - part[v] : 0;
                }
                list.add(g);
            }
            list.sort((p, q) -> Arrays.compare(p, q));
            return put(list, to);
        }

        static int standard(List<int[]> ideal, int degree) {
            int n = 0;
            int[] m = new int[4];
            for (m[0] = 0; m[0] <= degree; m[0]++) {
                for (m[1] = 0; m[0] + m[1] <= degree; m[1]++) {
                    for (m[2] = 0; m[0] + m[1] + m[2] <= degree; m[2]++) {
                        m[3] = degree - m[0] - m[1] - m[2];
                        n += in(ideal, m) ? 0 : 1;
                    }
                }
            }
            return n;
        }

        int count(int k, int degree) {
            if (!isIdeal(k)) {
                return UNKNOWN;
            }
            return degree < 0 || degree > 60 ? OUTSIDE : standard(ideals[k], degree);
        }

        int series(int k, int power) {
            if (!isIdeal(k)) {
                return -1000000 + UNKNOWN;
            }
            if (power < 0 || power > 60) {
                return -1000000 + OUTSIDE;
            }
            int[] factors = {1, -4, 6, -4, 1};
            int sum = 0;
            for (int n = 0; n <= 4 && n <= power; n++) {
                sum += factors[n] * standard(ideals[k], power - n);
            }
            return sum;
        }

        int size(List<int[]> ideal) {
            if (dimension(ideal) > 0) {
                return NONE;
            }
            int n = 0;
            for (int degree = 0; degree <= 24; degree++) {
                n += standard(ideal, degree);
            }
            return n;
        }

        int dimension(List<int[]> ideal) {
            int most = NONE;
            for (int[] part : parts(ideal)) {
                most = Math.max(most, 4 - Integer.bitCount(set(part)));
            }
            return most;
        }

        /** How many pivots, how many in one another. */
        static int[] tree(List<int[]> ideal) {
            boolean leaf = true;
            for (int[] p : ideal) {
                for (int[] q : ideal) {
                    leaf &= p == q || (set(p) & set(q)) == 0;
                }
            }
            if (leaf) {
                return new int[2];
            }
            int pivot = 0;
            int most = -1;
            for (int v = 0; v < 4; v++) {
                int n = 0;
                for (int[] g : ideal) {
                    n += g[v] > 0 ? 1 : 0;
                }
                if (n > most) {
                    most = n;
                    pivot = v;
                }
            }
            List<int[]> more = new ArrayList<>(ideal);
            int[] single = new int[4];
            single[pivot] = 1;
            more.add(single);
            List<int[]> less = new ArrayList<>();
            for (int[] g : ideal) {
                int[] h = g.clone();
                h[pivot] = Math.max(0, h[pivot] - 1);
                less.add(h);
            }
            int[] one = tree(least(more));
            int[] two = tree(least(less));
            return new int[] {1 + one[0] + two[0], 1 + Math.max(one[1], two[1])};
        }

        private List<int[]> latticeOf = null;
        private Set<Integer> latticeIs = null;

        Set<Integer> lattice(List<int[]> ideal) {
            if (latticeOf == ideal) {
                return latticeIs;
            }
            Set<Integer> all = new HashSet<>();
            for (int[] g : ideal) {
                Set<Integer> more = new HashSet<>();
                more.add(toCode(g));
                for (int code : all) {
                    more.add(toCode(lcm(ofCode(code), g)));
                }
                all.addAll(more);
            }
            latticeOf = ideal;
            latticeIs = new TreeSet<>(all);
            return latticeIs;
        }

        int facts(int k, int what) {
            if (!isIdeal(k)) {
                return UNKNOWN;
            }
            switch (what) {
                case 0:
                    return dimension(ideals[k]);
                case 1:
                    return size(ideals[k]);
                case 2:
                    return tree(ideals[k])[0];
                case 3:
                    return tree(ideals[k])[1];
                case 4:
                    return lattice(ideals[k]).size();
                default:
                    return OUTSIDE;
            }
        }

        /** Looks at every sum of sheets, and at the border of each. */
        static int holes(List<int[]> ideal, int[] m, int i) {
            boolean[] sheet = new boolean[16];
            for (int s = 0; s < 16; s++) {
                int[] q = m.clone();
                boolean can = true;
                for (int v = 0; v < 4; v++) {
                    q[v] -= s >> v & 1;
                    can &= q[v] >= 0;
                }
                sheet[s] = can && in(ideal, q);
            }
            if (i == 0) {
                return sheet[1] || sheet[2] || sheet[4] || sheet[8] ? 0 : 1;
            }
            Set<Integer> borders = new HashSet<>();
            int closed = 0;
            for (int sum : sums(sheet, i)) {
                closed += border(sum) == 0 ? 1 : 0;
            }
            for (int sum : sums(sheet, i + 1)) {
                borders.add(border(sum));
            }
            return Integer.numberOfTrailingZeros(closed) - Integer.numberOfTrailingZeros(borders.size());
        }

        static List<Integer> sums(boolean[] sheet, int i) {
            List<Integer> out = new ArrayList<>();
            out.add(0);
            for (int s = 0; s < 16; s++) {
                if (sheet[s] && Integer.bitCount(s) == i) {
                    for (int n = out.size() - 1; n >= 0; n--) {
                        out.add(out.get(n) | 1 << s);
                    }
                }
            }
            return out;
        }

        static int border(int sum) {
            int out = 0;
            for (int s = 0; s < 16; s++) {
                for (int v = 0; v < 4; v++) {
                    if ((sum >> s & 1) == 1 && (s >> v & 1) == 1) {
                        out ^= 1 << s - (1 << v);
                    }
                }
            }
            return out;
        }

        int betti(int k, int i) {
            if (!isIdeal(k)) {
                return UNKNOWN;
            }
            if (i < 0 || i > 3) {
                return OUTSIDE;
            }
            int n = 0;
            for (int code : lattice(ideals[k])) {
                n += holes(ideals[k], ofCode(code), i);
            }
            return n;
        }

        int bettiAt(int k, int i, int code) {
            if (!isIdeal(k)) {
                return UNKNOWN;
            }
            if (i < 0 || i > 3 || !isCode(code)) {
                return OUTSIDE;
            }
            return lattice(ideals[k]).contains(code) ? holes(ideals[k], ofCode(code), i) : 0;
        }

        long share(int k, int degree, int what) {
            if (!isIdeal(k)) {
                return GONE + UNKNOWN;
            }
            if (degree < 0 || degree > 60 || what < 0 || what > 2) {
                return GONE + OUTSIDE;
            }
            BigDecimal exact = new BigDecimal(standard(ideals[k], degree)).divide(
                    new BigDecimal(standard(List.of(), degree)), new MathContext(80));
            float single = Float.parseFloat(exact.toString());
            if (what == 0) {
                return Float.floatToIntBits(single);
            }
            if (what == 1) {
                return Double.doubleToLongBits(Double.parseDouble(exact.toString()));
            }
            return new BigDecimal(Float.parseFloat(new BigDecimal(single).multiply(new BigDecimal(1000)).toString()))
                    .longValue();
        }

        static boolean isPlace(int shelf, int place) {
            return shelf >= 0 && shelf <= 2 && place >= 0 && place <= 3;
        }

        int hold(int shelf, int place, int k, boolean ring) {
            if (!isPlace(shelf, place) || !isIdeal(k)) {
                return UNKNOWN;
            }
            if (shelf == 0 && ring || shelf == 1 && !ring) {
                return STATE;
            }
            held[shelf * 4 + place] = ideals[k];
            kinds[shelf * 4 + place] = ring ? 2 : 1;
            return 1;
        }

        int take(int shelf, int place, int k) {
            if (!isPlace(shelf, place) || !isIdeal(k)) {
                return UNKNOWN;
            }
            int kind = kinds[shelf * 4 + place];
            if (kind != 1) {
                return kind == 0 ? NO : STATE;
            }
            ideals[k] = held[shelf * 4 + place];
            return ideals[k].size();
        }

        int measure(int shelf, int place) {
            if (!isPlace(shelf, place)) {
                return UNKNOWN;
            }
            int kind = kinds[shelf * 4 + place];
            if (kind == 0) {
                return NO;
            }
            return kind == 1 ? held[shelf * 4 + place].size() : size(held[shelf * 4 + place]);
        }

        int image(int k) {
            if (k < 0 || k > 1) {
                return OUTSIDE;
            }
            images[k] = new Object[] {ideals.clone(), held.clone(), kinds.clone()};
            return 1;
        }

        @SuppressWarnings("unchecked")
        int restore(int k) {
            if (k < 0 || k > 1) {
                return OUTSIDE;
            }
            if (images[k] == null) {
                return STATE;
            }
            ideals = ((List<int[]>[]) images[k][0]).clone();
            held = ((List<int[]>[]) images[k][1]).clone();
            kinds = ((int[]) images[k][2]).clone();
            return 1;
        }

        int told(int what) {
            if (what == 0) {
                return pad.size();
            }
            if (what >= 10 && what <= 13) {
                return ideals[what - 10].size();
            }
            return what >= 20 && what < 50 && what % 10 < 4 ? kinds[(what / 10 - 2) * 4 + what % 10] : OUTSIDE;
        }
    }
}
