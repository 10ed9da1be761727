import java.util.Arrays;

/** Ideals of monomials in four variables; README.md says how to use it. */
public final class StairIdeals {
    public static final int UNKNOWN = -1, OUTSIDE = -2, STATE = -3, FULL = -4, NO = -5, NONE = -6;
    public static final long GONE = -1000000000000000000L;

    private static final int VARIABLES = 4;
    private static final int ALL_VARIABLES = 15;
    private static final int HIGHEST = 6;
    private static final int MOST_GENERATORS = 40;
    private static final int MOST_SIGNS = 60;
    private static final int MOST_DEGREE = 60;
    private static final int IDEALS = 4;
    private static final int SHELVES = 3;
    private static final int PLACES = 4;
    private static final int IMAGES = 2;
    private static final int SERIES_REFUSED = -1000000;

    private static final int NOTHING_HELD = 0, IDEAL_HELD = 1, RING_HELD = 2;
    private static final int SUM = 0, MEET = 1, PRODUCT = 2, QUOTIENT = 3, RADICAL = 4;

    private final Pad pad;
    private final Holdings holdings;
    private final Holdings[] images;
    private final Workshop workshop;
    private final Survey survey;

    public StairIdeals() {
        pad = new Pad();
        holdings = new Holdings();
        images = new Holdings[IMAGES];
        workshop = new Workshop();
        survey = new Survey();
    }

    // ---- 1 lists, ideals

    public int say(int sign) {
        if (sign < 33 || sign > 126) {
            return OUTSIDE;
        }
        return pad.append(sign) ? pad.size : FULL;
    }

    public int wipe() {
        int before = pad.size;
        pad.size = 0;
        return before;
    }

    public int fault() {
        return pad.read();
    }

    public int load(int ideal) {
        if (!isIdeal(ideal)) {
            return UNKNOWN;
        }
        if (pad.read() != NONE) {
            return NO;
        }
        workshop.gather(pad);
        pad.size = 0;
        return workshop.deliver(holdings.ideals[ideal]);
    }

    public int generator(int ideal, int i) {
        if (!isIdeal(ideal)) {
            return UNKNOWN;
        }
        Ideal asked = holdings.ideals[ideal];
        if (i == -1) {
            return asked.size;
        }
        return i >= 0 && i < asked.size ? Monomial.toCode(asked.generators[i]) : NONE;
    }

    public int has(int ideal, int code) {
        if (!isIdeal(ideal)) {
            return UNKNOWN;
        }
        if (!Monomial.isCode(code)) {
            return OUTSIDE;
        }
        return holdings.ideals[ideal].contains(Monomial.ofCode(code)) ? 1 : 0;
    }

    // ---- 2 what is made of them

    public int make(int how, int k, int j, int to) {
        if (!isIdeal(k) || !isIdeal(j) || !isIdeal(to)) {
            return UNKNOWN;
        }
        if (how < SUM || how > RADICAL) {
            return OUTSIDE;
        }
        if (!workshop.combine(how, holdings.ideals[k], holdings.ideals[j])) {
            return STATE;
        }
        return workshop.deliver(holdings.ideals[to]);
    }

    public int compare(int k, int j) {
        if (!isIdeal(k) || !isIdeal(j)) {
            return UNKNOWN;
        }
        boolean inside = holdings.ideals[k].isWithin(holdings.ideals[j]);
        boolean around = holdings.ideals[j].isWithin(holdings.ideals[k]);
        if (inside) {
            return around ? 0 : 1;
        }
        return around ? 2 : 3;
    }

    // ---- 3 parts, primes, duals

    public int part(int ideal, int i) {
        if (!isIdeal(ideal)) {
            return UNKNOWN;
        }
        survey.look(holdings.ideals[ideal]);
        return i == -1 ? survey.partCount() : survey.partCode(i);
    }

    public int prime(int ideal, int i) {
        if (!isIdeal(ideal)) {
            return UNKNOWN;
        }
        survey.look(holdings.ideals[ideal]);
        int primes = survey.stairs.primes();
        return i == -1 ? Integer.bitCount(primes) : placeOfBit(primes, i);
    }

    public int primary(int ideal, int prime, int to) {
        if (!isIdeal(ideal) || !isIdeal(to)) {
            return UNKNOWN;
        }
        survey.look(holdings.ideals[ideal]);
        if (placeIsMissing(survey.stairs.primes(), prime)) {
            return STATE;
        }
        workshop.meetParts(survey.stairs, prime);
        return workshop.deliver(holdings.ideals[to]);
    }

    public int dual(int ideal, int code, int to) {
        if (!isIdeal(ideal) || !isIdeal(to)) {
            return UNKNOWN;
        }
        if (!Monomial.isCode(code)) {
            return OUTSIDE;
        }
        int against = Monomial.ofCode(code);
        if (!holdings.ideals[ideal].allDivide(against)) {
            return STATE;
        }
        survey.look(holdings.ideals[ideal]);
        workshop.turnParts(survey.stairs, against);
        return workshop.deliver(holdings.ideals[to]);
    }

    // ---- 4 counts, holes, shares

    public int count(int ideal, int degree) {
        int refusal = refuseDegree(ideal, degree);
        if (refusal != 0) {
            return refusal;
        }
        survey.look(holdings.ideals[ideal]);
        return survey.standardOfDegree(degree);
    }

    public int series(int ideal, int power) {
        int refusal = refuseDegree(ideal, power);
        if (refusal != 0) {
            return SERIES_REFUSED + refusal;
        }
        survey.look(holdings.ideals[ideal]);
        return survey.seriesFactor(power);
    }

    public int facts(int ideal, int what) {
        if (!isIdeal(ideal)) {
            return UNKNOWN;
        }
        Ideal asked = holdings.ideals[ideal];
        survey.look(asked);
        switch (what) {
            case 0:
                return survey.stairs.dimension();
            case 1:
                return survey.stairs.standardInAll();
            case 2:
                return survey.pivots(asked);
            case 3:
                return survey.nestedPivots(asked);
            case 4:
                return survey.latticeSize(asked);
            default:
                return OUTSIDE;
        }
    }

    public int betti(int ideal, int i) {
        if (!isIdeal(ideal)) {
            return UNKNOWN;
        }
        if (i < 0 || i >= VARIABLES) {
            return OUTSIDE;
        }
        survey.look(holdings.ideals[ideal]);
        return survey.holesInAll(holdings.ideals[ideal], i);
    }

    public int bettiAt(int ideal, int i, int code) {
        if (!isIdeal(ideal)) {
            return UNKNOWN;
        }
        if (i < 0 || i >= VARIABLES || !Monomial.isCode(code)) {
            return OUTSIDE;
        }
        survey.look(holdings.ideals[ideal]);
        return survey.holesAt(holdings.ideals[ideal], i, Monomial.ofCode(code));
    }

    public long share(int ideal, int degree, int what) {
        int refusal = refuseDegree(ideal, degree);
        if (refusal != 0) {
            return GONE + refusal;
        }
        if (what < 0 || what > 2) {
            return GONE + OUTSIDE;
        }
        survey.look(holdings.ideals[ideal]);
        int standard = survey.standardOfDegree(degree);
        int all = Monomial.ofDegree(degree);
        if (what == 0) {
            return Share.singleBits(standard, all);
        }
        return what == 1 ? Share.doubleBits(standard, all) : Share.thousandths(standard, all);
    }

    // ---- 5 shelves

    public int hold(int shelf, int place, int ideal, boolean ring) {
        if (!isPlace(shelf, place) || !isIdeal(ideal)) {
            return UNKNOWN;
        }
        if (ring ? shelf == 0 : shelf == 1) {
            return STATE;
        }
        int at = shelf * PLACES + place;
        holdings.held[at].copyFrom(holdings.ideals[ideal]);
        holdings.kinds[at] = ring ? RING_HELD : IDEAL_HELD;
        return 1;
    }

    public int take(int shelf, int place, int ideal) {
        if (!isPlace(shelf, place) || !isIdeal(ideal)) {
            return UNKNOWN;
        }
        int at = shelf * PLACES + place;
        if (holdings.kinds[at] == NOTHING_HELD) {
            return NO;
        }
        if (holdings.kinds[at] == RING_HELD) {
            return STATE;
        }
        holdings.ideals[ideal].copyFrom(holdings.held[at]);
        return holdings.ideals[ideal].size;
    }

    public int measure(int shelf, int place) {
        if (!isPlace(shelf, place)) {
            return UNKNOWN;
        }
        int at = shelf * PLACES + place;
        if (holdings.kinds[at] == NOTHING_HELD) {
            return NO;
        }
        if (holdings.kinds[at] == IDEAL_HELD) {
            return holdings.held[at].size;
        }
        survey.look(holdings.held[at]);
        return survey.stairs.standardInAll();
    }

    public int image(int k) {
        if (k < 0 || k >= IMAGES) {
            return OUTSIDE;
        }
        if (images[k] == null) {
            images[k] = new Holdings();
        }
        images[k].copyFrom(holdings);
        return 1;
    }

    public int restore(int k) {
        if (k < 0 || k >= IMAGES) {
            return OUTSIDE;
        }
        if (images[k] == null) {
            return STATE;
        }
        holdings.copyFrom(images[k]);
        return 1;
    }

    public int told(int what) {
        if (what == 0) {
            return pad.size;
        }
        if (what >= 10 && what < 10 + IDEALS) {
            return holdings.ideals[what - 10].size;
        }
        for (int shelf = 0; shelf < SHELVES; shelf++) {
            int place = what - 20 - 10 * shelf;
            if (place >= 0 && place < PLACES) {
                return holdings.kinds[shelf * PLACES + place];
            }
        }
        return OUTSIDE;
    }

    private static boolean isIdeal(int ideal) {
        return ideal >= 0 && ideal < IDEALS;
    }

    private static boolean isPlace(int shelf, int place) {
        return shelf >= 0 && shelf < SHELVES && place >= 0 && place < PLACES;
    }

    private static int refuseDegree(int ideal, int degree) {
        if (!isIdeal(ideal)) {
            return UNKNOWN;
        }
        return degree < 0 || degree > MOST_DEGREE ? OUTSIDE : 0;
    }

    private static int placeOfBit(int bits, int i) {
        int left = i;
        for (int place = 0; place < 1 << VARIABLES; place++) {
            if ((bits >> place & 1) == 1) {
                if (left == 0) {
                    return place;
                }
                left--;
            }
        }
        return NONE;
    }

    // A shift takes its count modulo 32, so that a place that is out of range must not reach it.
    private static boolean placeIsMissing(int bits, int place) {
        return place < 0 || place >= 1 << VARIABLES || (bits >> place & 1) == 0;
    }

    /**
     * A monomial is an int of four figures of four bits, that of variable 0 highest: so monomials sort as their
     * codes do, a product is a sum, and one test of four bits tells whether one divides another.
     */
    private static final class Monomial {
        private static final int ABOVE_FIGURES = 0x8888;
        private static final int ONE_OF_EACH = 0x1111;
        private static final int[] OF_SET = {
            0x0000, 0x1000, 0x0100, 0x1100, 0x0010, 0x1010, 0x0110, 0x1110,
            0x0001, 0x1001, 0x0101, 0x1101, 0x0011, 0x1011, 0x0111, 0x1111
        };

        static boolean isCode(int code) {
            return code >= 0 && code <= 6666 && code / 100 % 10 <= HIGHEST && code / 10 % 10 <= HIGHEST
                    && code % 10 <= HIGHEST;
        }

        static int ofCode(int code) {
            return code / 1000 % 10 << 12 | code / 100 % 10 << 8 | code / 10 % 10 << 4 | code % 10;
        }

        static int toCode(int monomial) {
            return 1000 * exponent(monomial, 0) + 100 * exponent(monomial, 1) + 10 * exponent(monomial, 2)
                    + exponent(monomial, 3);
        }

        static int exponent(int monomial, int variable) {
            return monomial >> 12 - 4 * variable & 15;
        }

        static int power(int variable, int exponent) {
            return exponent << 12 - 4 * variable;
        }

        // Holds for exponents up to 7: each figure of the second lends itself an 8 that no other figure needs.
        static boolean divides(int one, int other) {
            return ((other | ABOVE_FIGURES) - one & ABOVE_FIGURES) == ABOVE_FIGURES;
        }

        // Holds for exponents up to 14, more than a product of two monomials can have.
        static boolean isTooHigh(int monomial) {
            return (monomial + ONE_OF_EACH & ABOVE_FIGURES) != 0;
        }

        static int support(int monomial) {
            int set = 0;
            for (int v = 0; v < VARIABLES; v++) {
                if (exponent(monomial, v) > 0) {
                    set |= 1 << v;
                }
            }
            return set;
        }

        static int ofSet(int set) {
            return OF_SET[set & ALL_VARIABLES];
        }

        static int ofDegree(int degree) {
            return (degree + 1) * (degree + 2) * (degree + 3) / 6;
        }
    }

    /** An ideal by its generators, rising. */
    private static final class Ideal {
        final int[] generators = new int[MOST_GENERATORS];
        int size;

        void copyFrom(Ideal other) {
            System.arraycopy(other.generators, 0, generators, 0, MOST_GENERATORS);
            size = other.size;
        }

        boolean contains(int monomial) {
            for (int i = 0; i < size; i++) {
                if (Monomial.divides(generators[i], monomial)) {
                    return true;
                }
            }
            return false;
        }

        boolean isWithin(Ideal other) {
            for (int i = 0; i < size; i++) {
                if (!other.contains(generators[i])) {
                    return false;
                }
            }
            return true;
        }

        /** Whether generators that divide it reach, together, each of its exponents. */
        boolean isCommonMultiple(int monomial) {
            int reached = 0;
            for (int i = 0; i < size && reached != ALL_VARIABLES; i++) {
                if (Monomial.divides(generators[i], monomial)) {
                    reached |= ALL_VARIABLES & ~Monomial.support(monomial - generators[i]);
                }
            }
            return reached == ALL_VARIABLES;
        }

        boolean allDivide(int monomial) {
            for (int i = 0; i < size; i++) {
                if (!Monomial.divides(generators[i], monomial)) {
                    return false;
                }
            }
            return true;
        }
    }

    /** All that an image keeps. */
    private static final class Holdings {
        final Ideal[] ideals = new Ideal[IDEALS];
        final Ideal[] held = new Ideal[SHELVES * PLACES];
        final int[] kinds = new int[SHELVES * PLACES];

        Holdings() {
            for (int i = 0; i < ideals.length; i++) {
                ideals[i] = new Ideal();
            }
            for (int i = 0; i < held.length; i++) {
                held[i] = new Ideal();
            }
        }

        void copyFrom(Holdings other) {
            for (int i = 0; i < ideals.length; i++) {
                ideals[i].copyFrom(other.ideals[i]);
            }
            for (int i = 0; i < held.length; i++) {
                held[i].copyFrom(other.held[i]);
                kinds[i] = other.kinds[i];
            }
        }
    }

    /** The signs that were said, and what a reading of them found. */
    private static final class Pad {
        private static final int AT_START = 0, BEHIND_ONE = 1, BEHIND_LETTER = 2, BEHIND_FIGURE = 3;

        final int[] monomials = new int[MOST_SIGNS];
        int found;
        int size;
        private final int[] signs = new int[MOST_SIGNS];
        private int state;
        private int letter;
        private int current;

        boolean append(int sign) {
            if (size >= signs.length) {
                return false;
            }
            signs[size] = sign;
            size++;
            return true;
        }

        int read() {
            found = 0;
            begin();
            for (int i = 0; i < size; i++) {
                if (!accept(signs[i])) {
                    return i;
                }
            }
            if (size == 0) {
                return NONE;
            }
            return endMonomial() ? NONE : size;
        }

        private void begin() {
            state = AT_START;
            current = 0;
        }

        private boolean accept(int sign) {
            if (sign == ',') {
                return endMonomial();
            }
            if (sign >= 'a' && sign < 'a' + VARIABLES) {
                return acceptLetter(sign - 'a');
            }
            if (sign >= '1' && sign <= '0' + HIGHEST) {
                return acceptFigure(sign - '0');
            }
            return false;
        }

        private boolean endMonomial() {
            if (state == AT_START || found >= monomials.length) {
                return false;
            }
            monomials[found] = current;
            found++;
            begin();
            return true;
        }

        private boolean acceptLetter(int variable) {
            if (state == BEHIND_ONE || Monomial.exponent(current, variable) >= HIGHEST) {
                return false;
            }
            letter = variable;
            current += Monomial.power(variable, 1);
            state = BEHIND_LETTER;
            return true;
        }

        private boolean acceptFigure(int figure) {
            if (state == AT_START && figure == 1) {
                state = BEHIND_ONE;
                return true;
            }
            // The letter itself has been counted once already.
            int more = figure - 1;
            if (state != BEHIND_LETTER || Monomial.exponent(current, letter) + more > HIGHEST) {
                return false;
            }
            current += Monomial.power(letter, more);
            state = BEHIND_FIGURE;
            return true;
        }
    }

    /**
     * An ideal as a height above each cell, a cell being exponents 0 to 6 of the first three variables: the least
     * exponent of the last one with which the monomial is in, or 7 for none. Ideals with far more generators than
     * 40 fit, so that only what comes out at the end must be within that limit.
     */
    private static final class Stairs {
        private static final int SIDE = HIGHEST + 1;
        private static final int CELLS = SIDE * SIDE * SIDE;
        private static final int FIRST = SIDE * SIDE, SECOND = SIDE, THIRD = 1;
        private static final int ABSENT = -1;

        final int[] heights = new int[CELLS];

        void becomeNothing() {
            Arrays.fill(heights, SIDE);
        }

        void becomeAll() {
            Arrays.fill(heights, 0);
        }

        void become(Ideal ideal) {
            becomeNothing();
            lowerBy(ideal);
            spreadUp();
        }

        void lowerBy(Ideal ideal) {
            for (int i = 0; i < ideal.size; i++) {
                lower(ideal.generators[i]);
            }
        }

        void lower(int monomial) {
            int cell = cellOf(monomial);
            heights[cell] = Math.min(heights[cell], Monomial.exponent(monomial, 3));
        }

        void raiseBy(Stairs other) {
            for (int cell = 0; cell < CELLS; cell++) {
                heights[cell] = Math.max(heights[cell], other.heights[cell]);
            }
        }

        // No generator goes beyond 6, so that what is beyond is in just if it is in when cut to 6.
        boolean contains(int monomial) {
            return heights[cellOf(monomial)] <= Math.min(HIGHEST, Monomial.exponent(monomial, 3));
        }

        static int cellOf(int monomial) {
            return FIRST * Math.min(HIGHEST, Monomial.exponent(monomial, 0))
                    + SECOND * Math.min(HIGHEST, Monomial.exponent(monomial, 1))
                    + THIRD * Math.min(HIGHEST, Monomial.exponent(monomial, 2));
        }

        static int monomialOf(int cell) {
            return cell / FIRST << 12 | cell / SECOND % SIDE << 8 | cell % SIDE << 4;
        }

        void spreadUp() {
            for (int cell = 0; cell < CELLS; cell++) {
                heights[cell] = Math.min(heights[cell], leastBefore(cell));
            }
        }

        void spreadDown() {
            for (int cell = CELLS - 1; cell >= 0; cell--) {
                heights[cell] = Math.max(heights[cell], mostBehind(cell));
            }
        }

        private int leastBefore(int cell) {
            int least = SIDE;
            if (cell >= FIRST) {
                least = heights[cell - FIRST];
            }
            if (cell % FIRST >= SECOND) {
                least = Math.min(least, heights[cell - SECOND]);
            }
            if (cell % SECOND >= THIRD) {
                least = Math.min(least, heights[cell - THIRD]);
            }
            return least;
        }

        // Behind the last cell all counts as in: what has no end there is a part without that variable.
        private int mostBehind(int cell) {
            int most = 0;
            if (cell < CELLS - FIRST) {
                most = heights[cell + FIRST];
            }
            if (cell % FIRST < FIRST - SECOND) {
                most = Math.max(most, heights[cell + SECOND]);
            }
            if (cell % SECOND < SECOND - THIRD) {
                most = Math.max(most, heights[cell + THIRD]);
            }
            return most;
        }

        int generatorAt(int cell) {
            return heights[cell] < leastBefore(cell) ? monomialOf(cell) | heights[cell] : ABSENT;
        }

        // The order in which parts rise begins with the last cell of each side, as no power at all is told by 0.
        static int cellInPartOrder(int order) {
            return FIRST * ((order / FIRST + HIGHEST) % SIDE) + SECOND * ((order / SECOND + HIGHEST) % SIDE)
                    + THIRD * ((order + HIGHEST) % SIDE);
        }

        int partAt(int order) {
            int cell = cellInPartOrder(order);
            return heights[cell] > mostBehind(cell) ? monomialOf(order) | heights[cell] % SIDE : ABSENT;
        }

        int primes() {
            int seen = 0;
            for (int order = 0; order < CELLS; order++) {
                int found = partAt(order);
                if (found != ABSENT) {
                    seen |= 1 << Monomial.support(found);
                }
            }
            return seen;
        }

        int dimension() {
            int most = NONE;
            for (int order = 0; order < CELLS; order++) {
                int found = partAt(order);
                if (found != ABSENT) {
                    most = Math.max(most, VARIABLES - Integer.bitCount(Monomial.support(found)));
                }
            }
            return most;
        }

        int standardInAll() {
            if (dimension() > 0) {
                return NONE;
            }
            int sum = 0;
            for (int cell = 0; cell < CELLS; cell++) {
                sum += heights[cell];
            }
            return sum;
        }
    }

    /** Makes ideals out of others; what is made lies apart until it is delivered, so that a refusal changes nothing. */
    private static final class Workshop {
        private final Stairs made = new Stairs();
        private final Stairs other = new Stairs();

        void gather(Pad pad) {
            made.becomeNothing();
            for (int i = 0; i < pad.found; i++) {
                made.lower(pad.monomials[i]);
            }
            made.spreadUp();
        }

        /** Answers whether no generator has too high an exponent. */
        boolean combine(int how, Ideal k, Ideal j) {
            switch (how) {
                case SUM:
                    made.become(k);
                    made.lowerBy(j);
                    made.spreadUp();
                    return true;
                case MEET:
                    made.become(k);
                    other.become(j);
                    made.raiseBy(other);
                    return true;
                case PRODUCT:
                    return productFits(k, j);
                case QUOTIENT:
                    other.become(k);
                    divideOther(j);
                    return true;
                default:
                    radicalOf(k);
                    return true;
            }
        }

        // A product that is too high does no harm where a lower one divides it: so the low ones come first.
        private boolean productFits(Ideal k, Ideal j) {
            made.becomeNothing();
            for (int i = 0; i < k.size; i++) {
                for (int n = 0; n < j.size; n++) {
                    int product = k.generators[i] + j.generators[n];
                    if (!Monomial.isTooHigh(product)) {
                        made.lower(product);
                    }
                }
            }
            made.spreadUp();
            for (int i = 0; i < k.size; i++) {
                for (int n = 0; n < j.size; n++) {
                    int product = k.generators[i] + j.generators[n];
                    if (Monomial.isTooHigh(product) && !made.contains(product)) {
                        return false;
                    }
                }
            }
            return true;
        }

        private void divideOther(Ideal j) {
            made.becomeAll();
            for (int n = 0; n < j.size; n++) {
                int by = j.generators[n];
                int last = Monomial.exponent(by, 3);
                for (int cell = 0; cell < Stairs.CELLS; cell++) {
                    int height = other.heights[Stairs.cellOf(Stairs.monomialOf(cell) + by)];
                    int less = height > HIGHEST ? height : height - last;
                    made.heights[cell] = Math.max(made.heights[cell], less);
                }
            }
        }

        private void radicalOf(Ideal k) {
            made.becomeNothing();
            for (int i = 0; i < k.size; i++) {
                made.lower(Monomial.ofSet(Monomial.support(k.generators[i])));
            }
            made.spreadUp();
        }

        void meetParts(Stairs stairs, int prime) {
            made.becomeAll();
            for (int order = 0; order < Stairs.CELLS; order++) {
                int found = stairs.partAt(order);
                if (found != Stairs.ABSENT && Monomial.support(found) == prime) {
                    int cell = Stairs.cellInPartOrder(order);
                    made.heights[cell] = stairs.heights[cell];
                }
            }
            made.spreadDown();
        }

        void turnParts(Stairs stairs, int against) {
            made.becomeNothing();
            for (int order = 0; order < Stairs.CELLS; order++) {
                int found = stairs.partAt(order);
                if (found != Stairs.ABSENT) {
                    made.lower(against + Monomial.ofSet(Monomial.support(found)) - found & figuresOf(found));
                }
            }
            made.spreadUp();
        }

        private static int figuresOf(int part) {
            return 15 * Monomial.ofSet(Monomial.support(part));
        }

        /** Answers how many generators the ideal has then, or FULL. */
        int deliver(Ideal to) {
            int size = 0;
            for (int cell = 0; cell < Stairs.CELLS; cell++) {
                if (made.generatorAt(cell) != Stairs.ABSENT) {
                    size++;
                }
            }
            if (size > MOST_GENERATORS) {
                return FULL;
            }
            fill(to);
            return size;
        }

        private void fill(Ideal to) {
            to.size = 0;
            for (int cell = 0; cell < Stairs.CELLS && to.size < MOST_GENERATORS; cell++) {
                int found = made.generatorAt(cell);
                if (found != Stairs.ABSENT) {
                    to.generators[to.size] = found;
                    to.size++;
                }
            }
        }
    }

    /** Tells of one ideal at a time, the one that was looked at last. */
    private static final class Survey {
        private static final int MOST_POWER = VARIABLES * HIGHEST;
        // Row r: the factors of (1 - t) to the r, by powers.
        private static final int[] STEPS = {1, 0, 0, 0, 1, -1, 0, 0, 1, -2, 1, 0, 1, -3, 3, -1};

        final Stairs stairs = new Stairs();
        private final int[] factors = new int[MOST_POWER + 1];
        private final Complex complex = new Complex();
        private final Tree tree = new Tree();

        void look(Ideal ideal) {
            stairs.become(ideal);
        }

        int partCount() {
            int parts = 0;
            for (int order = 0; order < Stairs.CELLS; order++) {
                if (stairs.partAt(order) != Stairs.ABSENT) {
                    parts++;
                }
            }
            return parts;
        }

        int partCode(int i) {
            int left = i;
            for (int order = 0; order < Stairs.CELLS; order++) {
                int found = stairs.partAt(order);
                if (found != Stairs.ABSENT) {
                    if (left == 0) {
                        return Monomial.toCode(found);
                    }
                    left--;
                }
            }
            return NONE;
        }

        int seriesFactor(int power) {
            findFactors();
            return power >= 0 && power <= MOST_POWER ? factors[power] : 0;
        }

        int standardOfDegree(int degree) {
            findFactors();
            int sum = 0;
            for (int power = 0; power <= MOST_POWER && power <= degree; power++) {
                sum += factors[power] * Monomial.ofDegree(degree - power);
            }
            return sum;
        }

        // A cell stands for all monomials that it is cut from: at an exponent of 6 these have no end, which takes
        // one of the four factors (1 - t) away; the column above the cell always takes one.
        private void findFactors() {
            Arrays.fill(factors, 0);
            for (int cell = 0; cell < Stairs.CELLS; cell++) {
                int monomial = Stairs.monomialOf(cell);
                int degree = 0;
                int steps = 0;
                for (int v = 0; v < VARIABLES - 1; v++) {
                    int exponent = Monomial.exponent(monomial, v);
                    degree += exponent;
                    steps += exponent < HIGHEST ? 1 : 0;
                }
                addSteps(degree, steps, 1);
                if (stairs.heights[cell] <= HIGHEST) {
                    addSteps(degree + stairs.heights[cell], steps, -1);
                }
            }
        }

        private void addSteps(int power, int steps, int times) {
            for (int n = 0; n <= steps; n++) {
                int at = power + n;
                int step = 4 * steps + n;
                if (at >= 0 && at <= MOST_POWER && step >= 0 && step < STEPS.length) {
                    factors[at] += times * STEPS[step];
                }
            }
        }

        int pivots(Ideal ideal) {
            tree.grow(ideal);
            return tree.pivots;
        }

        int nestedPivots(Ideal ideal) {
            tree.grow(ideal);
            return tree.deepest;
        }

        int latticeSize(Ideal ideal) {
            int size = 0;
            for (int cell = 0; cell < Stairs.CELLS; cell++) {
                for (int last = stairs.heights[cell]; last <= HIGHEST; last++) {
                    if (ideal.isCommonMultiple(Stairs.monomialOf(cell) | last)) {
                        size++;
                    }
                }
            }
            return size;
        }

        int holesInAll(Ideal ideal, int i) {
            int sum = 0;
            for (int cell = 0; cell < Stairs.CELLS; cell++) {
                for (int last = stairs.heights[cell]; last <= HIGHEST; last++) {
                    sum += holesAt(ideal, i, Stairs.monomialOf(cell) | last);
                }
            }
            return sum;
        }

        int holesAt(Ideal ideal, int i, int monomial) {
            if (!ideal.isCommonMultiple(monomial)) {
                return 0;
            }
            return complex.holes(Complex.sheetsAt(monomial, stairs), i);
        }
    }

    /** The complex at a monomial: a set of sheets, which are sets of variables, each told by a bit. */
    private static final class Complex {
        private static final int SETS = 1 << VARIABLES;

        private final int[] basis = new int[SETS];

        static int sheetsAt(int monomial, Stairs stairs) {
            int sheets = 0;
            for (int set = 0; set < SETS; set++) {
                int divisor = Monomial.ofSet(set);
                if (Monomial.divides(divisor, monomial) && stairs.contains(monomial - divisor)) {
                    sheets |= 1 << set;
                }
            }
            return sheets;
        }

        int holes(int sheets, int i) {
            return sheetsOf(sheets, i) - borders(sheets, i) - borders(sheets, i + 1);
        }

        private static int sheetsOf(int sheets, int i) {
            int found = 0;
            for (int set = 0; set < SETS; set++) {
                if ((sheets >> set & 1) == 1 && Integer.bitCount(set) == i) {
                    found++;
                }
            }
            return found;
        }

        /** How many dimensions the borders of the sheets of i variables have. */
        private int borders(int sheets, int i) {
            int rank = 0;
            for (int set = 1; set < SETS; set++) {
                if ((sheets >> set & 1) == 1 && Integer.bitCount(set) == i) {
                    int rest = reduce(borderOf(set), rank);
                    if (rest != 0 && rank < basis.length) {
                        basis[rank] = rest;
                        rank++;
                    }
                }
            }
            return rank;
        }

        private static int borderOf(int set) {
            int border = 0;
            for (int v = 0; v < VARIABLES; v++) {
                if ((set >> v & 1) == 1) {
                    border ^= 1 << (set & ~(1 << v));
                }
            }
            return border;
        }

        // No later row has an earlier one's highest bit: so the lesser of both is the one without it.
        private int reduce(int row, int rank) {
            int rest = row;
            for (int n = 0; n < rank && n < basis.length; n++) {
                rest = Math.min(rest, rest ^ basis[n]);
            }
            return rest;
        }
    }

    /**
     * The tree of pivots. A variable that has become a generator is left out below: it is alone in just one
     * generator, so that it neither makes a pivot nor keeps one from being a leaf.
     */
    private static final class Tree {
        // A pivot takes one from the highest exponent of its variable, or the variable away: 24 at the most.
        private static final int MOST_NESTED = VARIABLES * HIGHEST;

        int pivots;
        int deepest;
        private final int[][] rows = new int[MOST_NESTED + 1][MOST_GENERATORS];

        void grow(Ideal ideal) {
            pivots = 0;
            deepest = 0;
            System.arraycopy(ideal.generators, 0, rows[0], 0, MOST_GENERATORS);
            branch(this, 0, ideal.size);
        }

        private static void branch(Tree tree, int depth, int size) {
            if (depth >= MOST_NESTED) {
                return;
            }
            int pivot = pivotOf(tree.rows[depth], size);
            if (pivot == NONE) {
                return;
            }
            tree.pivots++;
            tree.deepest = Math.max(tree.deepest, depth + 1);
            branch(tree, depth + 1, keepWithout(tree.rows[depth], size, pivot, tree.rows[depth + 1]));
            branch(tree, depth + 1, divide(tree.rows[depth], size, pivot, tree.rows[depth + 1]));
        }

        private static int pivotOf(int[] row, int size) {
            int pivot = NONE;
            int most = 1;
            for (int v = 0; v < VARIABLES; v++) {
                int times = 0;
                for (int i = 0; i < size && i < row.length; i++) {
                    if (Monomial.exponent(row[i], v) > 0) {
                        times++;
                    }
                }
                if (times > most) {
                    most = times;
                    pivot = v;
                }
            }
            return pivot;
        }

        private static int keepWithout(int[] row, int size, int pivot, int[] to) {
            int kept = 0;
            for (int i = 0; i < size && i < row.length && kept < to.length; i++) {
                if (Monomial.exponent(row[i], pivot) == 0) {
                    to[kept] = row[i];
                    kept++;
                }
            }
            return kept;
        }

        // What was divided stays without divisors among the others; only those others may have got one.
        private static int divide(int[] row, int size, int pivot, int[] to) {
            int divided = 0;
            for (int i = 0; i < size && i < row.length && divided < to.length; i++) {
                if (Monomial.exponent(row[i], pivot) > 0) {
                    to[divided] = row[i] - Monomial.power(pivot, 1);
                    divided++;
                }
            }
            int kept = divided;
            for (int i = 0; i < size && i < row.length && kept < to.length; i++) {
                if (Monomial.exponent(row[i], pivot) == 0 && !someDivides(to, divided, row[i])) {
                    to[kept] = row[i];
                    kept++;
                }
            }
            return kept;
        }

        private static boolean someDivides(int[] row, int size, int monomial) {
            for (int i = 0; i < size && i < row.length; i++) {
                if (Monomial.divides(row[i], monomial)) {
                    return true;
                }
            }
            return false;
        }
    }

    /** A share between 0 and 1, of which the bits are found by doubling, which never rounds. */
    private static final class Share {
        private static final int MOST_DOUBLINGS = 100;
        private static final long SINGLE_UNIT = 1L << 23, DOUBLE_UNIT = 1L << 52;

        private static float single(int standard, int all) {
            return all == 0 ? 0.0f : (float) standard / (float) all;
        }

        static long singleBits(int standard, int all) {
            float left = single(standard, all);
            if (left <= 0.0f) {
                return 0L;
            }
            int doublings = 0;
            while (left < (float) SINGLE_UNIT && doublings < MOST_DOUBLINGS) {
                left = left * 2.0f;
                doublings++;
            }
            return (127L + 23L - doublings) * SINGLE_UNIT + ((long) left - SINGLE_UNIT);
        }

        static long doubleBits(int standard, int all) {
            double left = all == 0 ? 0.0 : (double) standard / (double) all;
            if (left <= 0.0) {
                return 0L;
            }
            int doublings = 0;
            while (left < (double) DOUBLE_UNIT && doublings < MOST_DOUBLINGS) {
                left = left * 2.0;
                doublings++;
            }
            return (1023L + 52L - doublings) * DOUBLE_UNIT + ((long) left - DOUBLE_UNIT);
        }

        static long thousandths(int standard, int all) {
            return (long) (single(standard, all) * 1000.0f);
        }
    }
}
