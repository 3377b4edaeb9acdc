/**
 * Rows of observations of a few names, and graphs that tell on which others each name hangs.
 * The words of the document (NAME, ROW, GRAPH, FIT, ..) are used here in its sense.
 */
public final class StructureSearch {
    public static final int BAD = -1, STATE = -2, FULL = -3;

    private static final int MAX_NAMES = 5;
    private static final int MAX_ROWS = 16;
    private static final int MAX_STRENGTH = 9;
    private static final int MAX_MOST = 4;
    private static final int MAX_STEPS = 30;
    private static final int SHARE_NAMES = 4;
    private static final int ALL_SETS = 1 << MAX_NAMES;
    private static final long WORD_MASK = 0xFFFFFFFFL;

    private final Sheet sheet;
    private final Powers powers;
    private final Fits fits;
    private final Search search;
    private final Tables tables;
    // Made when first asked for: it is by far the largest part, and many objects never need it.
    private Shares shares;

    public StructureSearch() {
        sheet = new Sheet();
        powers = new Powers();
        fits = new Fits(sheet, powers);
        search = new Search(sheet, fits);
        tables = new Tables(sheet);
        shares = null;
    }

    public int clear() {
        int before = sheet.rows;
        sheet.startAnew();
        forgetFits();
        return before;
    }

    public int name(int values) {
        if (values != 2 && values != 3) return BAD;
        if (sheet.rows > 0) return STATE;
        if (sheet.names >= MAX_NAMES) return FULL;
        forgetFits();
        return sheet.addName(values);
    }

    public int row(int a, int b, int c, int d, int e) {
        if (!fitsName(0, a) || !fitsName(1, b) || !fitsName(2, c) || !fitsName(3, d) || !fitsName(4, e)) return BAD;
        if (sheet.names == 0) return STATE;
        if (sheet.rows >= MAX_ROWS) return FULL;
        forgetFits();
        int code = coded(0, a) | coded(1, b) | coded(2, c) | coded(3, d) | coded(4, e);
        return sheet.addRow(code);
    }

    public int drop(int row) {
        if (!isRow(row)) return BAD;
        forgetFits();
        return sheet.removeRow(row);
    }

    public int value(int row, int name) {
        return isRow(row) && isName(name) ? sheet.valueIn(row, name) : BAD;
    }

    public int set(int what, int v) {
        if (what == 0 && v >= 1 && v <= MAX_STRENGTH) {
            int before = sheet.strength;
            sheet.strength = v;
            forgetFits();
            return before;
        }
        if (what == 1 && v >= 0 && v <= MAX_MOST) {
            int before = sheet.most;
            sheet.most = v;
            forgetShares();
            return before;
        }
        return BAD;
    }

    public int about(int what) {
        switch (what) {
            case 0: return sheet.names;
            case 1: return sheet.rows;
            case 2: return sheet.strength;
            case 3: return sheet.most;
            default: return what >= 4 && isName(what - 4) ? sheet.valuesOf(what - 4) : BAD;
        }
    }

    public boolean isGraph(int graph) {
        return Arcs.areGraph(graph, sheet.names);
    }

    public int order(int graph, int i) {
        if (!isGraph(graph) || !isName(i)) return BAD;
        int came = 0;
        int next = 0;
        for (int k = 0; k <= i; k++) {
            next = Arcs.nextAfter(graph, sheet.names, came);
            came |= 1 << next;
        }
        return next;
    }

    public int size(int graph, int part) {
        if (!isGraph(graph) || !isPart(part)) return BAD;
        return fits.ofGraph(graph).side(part).length();
    }

    public long word(int graph, int part, int i) {
        if (!isGraph(graph) || !isPart(part)) return BAD;
        return wordOf(fits.ofGraph(graph).side(part), i);
    }

    public int compare(int graph, int other) {
        if (!isGraph(graph) || !isGraph(other)) return BAD;
        return fits.weigh(graph, other) + 1;
    }

    public int parents(int name, int of) {
        if (!isName(name) || of < 0 || of >= 1 << sheet.names || Arcs.isIn(of, name)) return BAD;
        return search.bestParents(name, of);
    }

    public int best() {
        return search.bestGraph();
    }

    public int climb(int graph, int steps) {
        if (!isGraph(graph) || !Arcs.areBounded(graph, sheet.most) || steps < 0 || steps > MAX_STEPS) return BAD;
        return search.climbFrom(graph, steps);
    }

    public int alike(int graph, int other) {
        if (!isGraph(graph) || !isGraph(other)) return BAD;
        boolean same = Kin.ties(graph) == Kin.ties(other) && Kin.meetings(graph) == Kin.meetings(other);
        return same ? 1 : 0;
    }

    public int kin(int graph, int what) {
        if (!isGraph(graph) || what < 0 || what > 3) return BAD;
        Kin kin = new Kin();
        kin.gather(graph, sheet.names);
        switch (what) {
            case 0: return kin.count;
            case 1: return kin.least;
            case 2: return kin.greatest;
            default: return kin.common;
        }
    }

    public int shareSize(int from, int to, int part) {
        if (!isPair(from, to) || !isPart(part)) return BAD;
        if (sheet.names > SHARE_NAMES) return STATE;
        return readyShares().of(from, to).side(part).length();
    }

    public long shareWord(int from, int to, int part, int i) {
        if (!isPair(from, to) || !isPart(part)) return BAD;
        if (sheet.names > SHARE_NAMES) return STATE;
        return wordOf(readyShares().of(from, to).side(part), i);
    }

    public long test(int a, int b, int c, int v, int part) {
        if (!isPair(a, b) || !isPart(part)) return BAD;
        if (c != -1 && (!isPair(a, c) || !isPair(b, c) || !isValue(c, v))) return BAD;
        tables.count(a, b, c, v);
        return part == 0 ? tables.waysNotAbove() : tables.allWays();
    }

    private boolean isName(int name) {
        return name >= 0 && name < sheet.names;
    }

    private boolean isPair(int a, int b) {
        return isName(a) && isName(b) && a != b;
    }

    private boolean isRow(int row) {
        return row >= 0 && row < sheet.rows;
    }

    private boolean isValue(int name, int v) {
        return v >= 0 && v < sheet.valuesOf(name);
    }

    private static boolean isPart(int part) {
        return part == 0 || part == 1;
    }

    private boolean fitsName(int name, int v) {
        return !isName(name) || isValue(name, v);
    }

    private int coded(int name, int v) {
        return isName(name) ? v << 2 * name : 0;
    }

    private static long wordOf(Big number, int i) {
        return i >= 0 && i < number.length() ? number.at(i) : BAD;
    }

    private Shares readyShares() {
        if (shares == null) shares = new Shares(sheet, powers);
        return shares;
    }

    private void forgetFits() {
        fits.forget();
        forgetShares();
    }

    private void forgetShares() {
        if (shares != null) shares.forget();
    }

    /** A whole number, not below 0, in words of 32 bits, the lowest first. Its room is given once and has to do. */
    private static final class Big {
        // No number here is so long that a division or a common divisor needs nearly as many rounds.
        private static final int ROUNDS = 1000000;

        private final long[] words;
        private int used;

        Big(int room) {
            words = new long[room > 0 ? room : 1];
            used = 0;
        }

        int length() {
            return used;
        }

        long at(int i) {
            return i >= 0 && i < used && i < words.length ? words[i] : 0;
        }

        void become(int small) {
            used = 0;
            if (small > 0 && words.length > 0) {
                words[0] = small;
                used = 1;
            }
        }

        void copy(Big other) {
            used = Math.min(other.used, Math.min(words.length, other.words.length));
            System.arraycopy(other.words, 0, words, 0, used);
        }

        int against(Big other) {
            if (used != other.used) return used < other.used ? -1 : 1;
            for (int i = used - 1; i >= 0; i--) {
                if (at(i) != other.at(i)) return at(i) < other.at(i) ? -1 : 1;
            }
            return 0;
        }

        void timesSmall(long factor) {
            long carry = 0;
            for (int i = 0; i < used && i < words.length; i++) {
                long sum = words[i] * factor + carry;
                words[i] = sum & WORD_MASK;
                carry = sum >>> 32;
            }
            if (carry != 0 && used >= 0 && used < words.length) {
                words[used] = carry;
                used++;
            }
        }

        /** In place: from the highest word down, as what a word brings changes no word below it. */
        void times(Big other) {
            int mine = Math.min(used, words.length);
            widen(mine + other.used);
            for (int i = mine - 1; i >= 0; i--) {
                long digit = words[i];
                words[i] = 0;
                addMultiple(digit, other, i);
            }
            trim();
        }

        void plus(Big other) {
            widen(Math.max(used, other.used) + 1);
            addMultiple(1, other, 0);
            trim();
        }

        /** Only for what is not above this number. */
        void minus(Big other) {
            subtractMultiple(1, other, 0);
        }

        /** Takes another number away as often as it goes; the rest stays here. */
        void reduceBy(Big other, Big often) {
            if (other.used == 0) return;
            int low = Math.max(0, other.bits() - 31);
            // Rounded up, so that no digit is too high and nothing has to be given back.
            long divisor = Math.max(1, other.from(low) + (low > 0 ? 1 : 0));
            for (int round = 0; round < ROUNDS && against(other) >= 0; round++) {
                int gap = bits() - other.bits();
                int place = gap > 0 ? (gap - 1) / 32 : 0;
                long digit = Math.max(1, Math.min(WORD_MASK, from(low + 32 * place) / divisor));
                subtractMultiple(digit, other, place);
                if (often != null) often.addDigit(digit, place);
            }
        }

        /** The greatest common divisor, in one of the two, which are used up. */
        static Big commonDivisor(Big a, Big b) {
            Big high = a;
            Big low = b;
            for (int round = 0; round < ROUNDS && low.used > 0; round++) {
                high.reduceBy(low, null);
                Big rest = high;
                high = low;
                low = rest;
            }
            return high;
        }

        private int bits() {
            long filled = at(used - 1);
            // With all bits below the highest one set, their count tells where that one is.
            for (int shift = 1; shift < 32; shift *= 2) filled |= filled >>> shift;
            return used == 0 ? 0 : 32 * (used - 1) + Long.bitCount(filled);
        }

        /** The number without its lowest bits, where that has 63 bits at most. */
        private long from(int bit) {
            int place = bit >> 5;
            int shift = bit & 31;
            long low = at(place) | at(place + 1) << 32;
            return shift == 0 ? low : low >>> shift | at(place + 2) << (64 - shift);
        }

        private void addDigit(long digit, int place) {
            widen(Math.max(used, place + 1) + 1);
            long carry = digit;
            int end = Math.min(used, words.length);
            for (int i = place; i >= 0 && i < end && carry != 0; i++) {
                long sum = words[i] + carry;
                words[i] = sum & WORD_MASK;
                carry = sum >>> 32;
            }
            trim();
        }

        /** The room for what comes must be there already. */
        private void addMultiple(long digit, Big other, int place) {
            long carry = 0;
            int end = Math.min(used, words.length);
            int theirs = place + Math.min(other.used, other.words.length);
            for (int i = place; i >= 0 && i < end && (i < theirs || carry != 0); i++) {
                long sum = words[i] + carry;
                if (i < theirs) sum += digit * other.words[i - place];
                words[i] = sum & WORD_MASK;
                carry = sum >>> 32;
            }
        }

        private void subtractMultiple(long digit, Big other, int place) {
            long carry = 0;
            int end = Math.min(used, words.length);
            int theirs = place + Math.min(other.used, other.words.length);
            for (int i = place; i >= 0 && i < end && (i < theirs || carry != 0); i++) {
                long product = carry;
                if (i < theirs) product += digit * other.words[i - place];
                long rest = words[i] - (product & WORD_MASK);
                words[i] = rest & WORD_MASK;
                carry = (product >>> 32) + (rest < 0 ? 1 : 0);
            }
            trim();
        }

        private void widen(int length) {
            int end = Math.min(length, words.length);
            for (int i = used; i < end; i++) words[i] = 0;
            used = Math.max(used, end);
        }

        private void trim() {
            for (int i = Math.min(used, words.length) - 1; i >= 0 && words[i] == 0; i--) used = i;
        }
    }

    /** A fraction, above (part 0) and below (part 1), and whether it has been reckoned since all was last forgotten. */
    private static final class Fraction {
        final Big above;
        final Big below;
        boolean ready;

        Fraction(Big above, Big below) {
            this.above = above;
            this.below = below;
            ready = false;
        }

        Big side(int part) {
            return part == 0 ? above : below;
        }
    }

    /** A fraction as powers of primes: so it is in least terms without any division of long numbers. */
    private static final class Powers {
        // r w + 15 q r, with r = 3, w = 9 and q = 81, is the greatest factor of any FIT.
        private static final int TOP = 3672;
        // A number up to TOP that none of these divides is a prime.
        private static final int[] SMALL_PRIMES = {2, 3, 5, 7, 11, 13, 17, 19, 23, 29, 31, 37, 41, 43, 47, 53, 59};

        private final int[] power;
        private int largest;

        Powers() {
            power = new int[TOP + 1];
            largest = 0;
        }

        void forget() {
            for (int i = 0; i <= largest && i < power.length; i++) power[i] = 0;
            largest = 0;
        }

        /** Multiplies by a number (often = 1), or divides by it (often = -1). */
        void multiply(int number, int often) {
            if (number < 1 || number >= power.length) return;
            int rest = number;
            for (int i = 0; i < SMALL_PRIMES.length; i++) {
                int prime = SMALL_PRIMES[i];
                if (prime < 2 || prime >= power.length || prime * prime > rest) break;
                // A number up to TOP has far fewer prime factors than that.
                for (int k = 0; k < 32 && rest % prime == 0; k++) {
                    rest /= prime;
                    power[prime] += often;
                    if (prime > largest) largest = prime;
                }
            }
            if (rest > 1 && rest < power.length) {
                power[rest] += often;
                if (rest > largest) largest = rest;
            }
        }

        /** Writes what is above (sign = 1) or below (sign = -1). */
        void write(int sign, Big into) {
            into.become(1);
            long batch = 1;
            for (int prime = 2; prime <= largest && prime < power.length; prime++) {
                int often = sign * power[prime];
                for (int k = 0; k < often; k++) {
                    if (batch * prime > WORD_MASK) {
                        into.timesSmall(batch);
                        batch = 1;
                    }
                    batch *= prime;
                }
            }
            into.timesSmall(batch);
        }

        void copy(Powers other) {
            forget();
            largest = other.largest;
            for (int i = 0; i <= largest && i < power.length && i < other.power.length; i++) power[i] = other.power[i];
        }

        /** Of each prime the lower power of the two: the greatest fraction that both are whole multiples of. */
        void lowerTo(Powers other) {
            largest = Math.max(largest, other.largest);
            for (int i = 0; i <= largest && i < power.length && i < other.power.length; i++) {
                power[i] = Math.min(power[i], other.power[i]);
            }
        }

        void divide(Powers other) {
            largest = Math.max(largest, other.largest);
            for (int i = 0; i <= largest && i < power.length && i < other.power.length; i++) {
                power[i] -= other.power[i];
            }
        }
    }

    /** The NAMES and ROWS that are there, STRENGTH and MOST. A ROW is a number with two bits for each NAME. */
    private static final class Sheet {
        int names;
        int rows;
        int strength;
        int most;
        private final int[] values;
        private final int[] codes;

        Sheet() {
            values = new int[MAX_NAMES];
            codes = new int[MAX_ROWS];
            startAnew();
        }

        void startAnew() {
            names = 0;
            rows = 0;
            strength = 1;
            most = MAX_MOST;
        }

        int addName(int kinds) {
            if (names < 0 || names >= values.length) return FULL;
            values[names] = kinds;
            names++;
            return names - 1;
        }

        int addRow(int code) {
            if (rows < 0 || rows >= codes.length) return FULL;
            codes[rows] = code;
            rows++;
            return rows - 1;
        }

        int removeRow(int gone) {
            for (int i = gone; i >= 0 && i + 1 < rows && i + 1 < codes.length; i++) codes[i] = codes[i + 1];
            rows--;
            return rows;
        }

        int valuesOf(int name) {
            return name >= 0 && name < names && name < values.length ? values[name] : 1;
        }

        int valueIn(int row, int name) {
            return codeOf(row) >> 2 * name & 3;
        }

        /**
         * Multiplies by THE FIT of a NAME with PARENTS. Each ROW brings the factor that is next in its way, which the
         * number of ROWS like it before it tells: so no counts have to be kept.
         */
        void pourFit(int name, int set, Powers into) {
            int kinds = valuesOf(name);
            int own = 3 << 2 * name;
            int mask = 0;
            int step = kinds;
            for (int p = 0; p < names; p++) {
                if (Arcs.isIn(set, p)) {
                    mask |= 3 << 2 * p;
                    step *= valuesOf(p);
                }
            }
            for (int i = 0; i < rows; i++) {
                int met = 0;
                int same = 0;
                for (int j = 0; j < i; j++) {
                    int differs = codeOf(i) ^ codeOf(j);
                    if ((differs & mask) != 0) continue;
                    met++;
                    if ((differs & own) == 0) same++;
                }
                into.multiply(strength + same * step, 1);
                into.multiply(kinds * strength + met * step, -1);
            }
        }

        private int codeOf(int row) {
            return row >= 0 && row < rows && row < codes.length ? codes[row] : 0;
        }
    }

    /** What the number of a GRAPH tells. */
    private static final class Arcs {
        static boolean isIn(int set, int name) {
            return (set >> name & 1) == 1;
        }

        static int arc(int from, int to) {
            return 1 << MAX_NAMES * from + to;
        }

        static boolean has(int graph, int from, int to) {
            return (graph & arc(from, to)) != 0;
        }

        static int parentsIn(int graph, int name) {
            int set = 0;
            for (int p = 0; p < MAX_NAMES; p++) {
                set |= (graph >> MAX_NAMES * p + name & 1) << p;
            }
            return set;
        }

        /** The ARCS from all of a SET to a NAME. */
        static int fromAll(int set, int name) {
            int graph = 0;
            for (int p = 0; p < MAX_NAMES; p++) {
                if (isIn(set, p)) graph |= arc(p, name);
            }
            return graph;
        }

        static boolean areGraph(int graph, int names) {
            int all = (1 << names) - 1;
            int allowed = 0;
            for (int c = 0; c < names; c++) allowed |= fromAll(all & ~(1 << c), c);
            return (graph & ~allowed) == 0 && haveNoRound(graph, names);
        }

        static boolean haveNoRound(int graph, int names) {
            int came = 0;
            for (int i = 0; i < names; i++) {
                int next = nextAfter(graph, names, came);
                if (next < 0) return false;
                came |= 1 << next;
            }
            return true;
        }

        /** The least NAME that did not come yet and all of whose PARENTS came, or -1. */
        static int nextAfter(int graph, int names, int came) {
            for (int c = 0; c < names; c++) {
                if (!isIn(came, c) && (parentsIn(graph, c) & ~came) == 0) return c;
            }
            return -1;
        }

        static boolean areBounded(int graph, int most) {
            for (int c = 0; c < MAX_NAMES; c++) {
                if (Integer.bitCount(parentsIn(graph, c)) > most) return false;
            }
            return true;
        }
    }

    /** THE FITS of NAMES with their PARENTS, kept until something changes, and those of GRAPHS. */
    private static final class Fits {
        // Sixteen factors, each below 2^12.
        private static final int NAME_ROOM = 6;
        private static final int GRAPH_ROOM = NAME_ROOM * MAX_NAMES;

        private final Sheet sheet;
        private final Powers powers;
        private final Fraction[] ofNames;
        private final Fraction ofNothing;
        private final Fraction whole;
        private int wholeGraph;
        private final Big left;
        private final Big right;

        Fits(Sheet sheet, Powers powers) {
            this.sheet = sheet;
            this.powers = powers;
            ofNames = new Fraction[MAX_NAMES * ALL_SETS];
            ofNothing = new Fraction(new Big(1), new Big(1));
            whole = new Fraction(new Big(GRAPH_ROOM), new Big(GRAPH_ROOM));
            wholeGraph = 0;
            left = new Big(2 * GRAPH_ROOM);
            right = new Big(2 * GRAPH_ROOM);
        }

        void forget() {
            whole.ready = false;
            for (int i = 0; i < ofNames.length; i++) {
                if (ofNames[i] != null) ofNames[i].ready = false;
            }
        }

        Fraction ofGraph(int graph) {
            if (whole.ready && wholeGraph == graph) return whole;
            powers.forget();
            for (int c = 0; c < sheet.names; c++) sheet.pourFit(c, Arcs.parentsIn(graph, c), powers);
            powers.write(1, whole.above);
            powers.write(-1, whole.below);
            whole.ready = true;
            wholeGraph = graph;
            return whole;
        }

        /** -1, 0 or 1. A NAME with the same PARENTS in both GRAPHS makes no difference. */
        int weigh(int graph, int other) {
            left.become(1);
            right.become(1);
            for (int c = 0; c < sheet.names; c++) {
                int set = Arcs.parentsIn(graph, c);
                int otherSet = Arcs.parentsIn(other, c);
                if (set == otherSet) continue;
                Fraction mine = ofName(c, set);
                Fraction theirs = ofName(c, otherSet);
                left.times(mine.above);
                left.times(theirs.below);
                right.times(theirs.above);
                right.times(mine.below);
            }
            return left.against(right);
        }

        private Fraction ofName(int name, int set) {
            int i = name * ALL_SETS + set;
            if (i < 0 || i >= ofNames.length) return ofNothing;
            if (ofNames[i] == null) ofNames[i] = new Fraction(new Big(NAME_ROOM), new Big(NAME_ROOM));
            Fraction fit = ofNames[i];
            if (!fit.ready) {
                powers.forget();
                sheet.pourFit(name, set, powers);
                powers.write(1, fit.above);
                powers.write(-1, fit.below);
                fit.ready = true;
            }
            return fit;
        }
    }

    /** The search for the PARENTS and GRAPHS of the greatest FIT. */
    private static final class Search {
        private final Sheet sheet;
        private final Fits fits;
        private final int[] bestOf;

        Search(Sheet sheet, Fits fits) {
            this.sheet = sheet;
            this.fits = fits;
            bestOf = new int[ALL_SETS];
        }

        int bestParents(int name, int of) {
            int best = 0;
            for (int set = 1; set <= of && set < ALL_SETS; set++) {
                if ((set & ~of) != 0 || Integer.bitCount(set) > sheet.most) continue;
                if (fits.weigh(Arcs.fromAll(set, name), Arcs.fromAll(best, name)) > 0) best = set;
            }
            return best;
        }

        /**
         * Some NAME of each GRAPH is no PARENT; what is best for the others and for it is best together. That holds for
         * the least number too, since the number of a GRAPH is the sum of what each NAME's PARENTS bring.
         */
        int bestGraph() {
            int best = 0;
            for (int set = 1; set < 1 << sheet.names && set < ALL_SETS; set++) {
                best = -1;
                for (int last = 0; last < sheet.names; last++) {
                    if (!Arcs.isIn(set, last)) continue;
                    int rest = set & ~(1 << last);
                    best = better(kept(rest) | Arcs.fromAll(bestParents(last, rest), last), best);
                }
                keep(set, best);
            }
            return best;
        }

        int climbFrom(int graph, int steps) {
            int here = graph;
            for (int i = 0; i < steps; i++) {
                int next = bestNear(here);
                if (next < 0 || fits.weigh(next, here) <= 0) break;
                here = next;
            }
            return here;
        }

        private int kept(int set) {
            return set > 0 && set < bestOf.length ? bestOf[set] : 0;
        }

        private void keep(int set, int graph) {
            if (set > 0 && set < bestOf.length) bestOf[set] = graph;
        }

        private int bestNear(int graph) {
            int best = -1;
            for (int p = 0; p < sheet.names; p++) {
                for (int c = 0; c < sheet.names; c++) {
                    if (p == c) continue;
                    int changed = graph ^ Arcs.arc(p, c);
                    if (Arcs.has(graph, c, p)) changed ^= Arcs.arc(c, p);
                    if (isOpen(changed)) best = better(changed, best);
                }
            }
            return best;
        }

        private boolean isOpen(int graph) {
            return Arcs.areBounded(graph, sheet.most) && Arcs.haveNoRound(graph, sheet.names);
        }

        private int better(int graph, int best) {
            if (best < 0) return graph;
            int sign = fits.weigh(graph, best);
            return sign > 0 || sign == 0 && graph < best ? graph : best;
        }
    }

    /** All GRAPHS that are ALIKE one. */
    private static final class Kin {
        int count;
        int least;
        int greatest;
        int common;

        Kin() {
            count = 0;
            least = 0;
            greatest = 0;
            common = 0;
        }

        /** The pairs of NAMES that have an ARC between them, each as the ARC from the lower to the higher one. */
        static int ties(int graph) {
            int ties = 0;
            for (int a = 0; a < MAX_NAMES; a++) {
                for (int b = a + 1; b < MAX_NAMES; b++) {
                    if (Arcs.has(graph, a, b) || Arcs.has(graph, b, a)) ties |= Arcs.arc(a, b);
                }
            }
            return ties;
        }

        /** A bit for each pair of NAMES and each third one: whether it is a MEETING. */
        static long meetings(int graph) {
            int ties = ties(graph);
            long meetings = 0;
            int bit = 0;
            for (int c = 0; c < MAX_NAMES; c++) {
                int set = Arcs.parentsIn(graph, c);
                for (int a = 0; a < MAX_NAMES; a++) {
                    for (int b = a + 1; b < MAX_NAMES; b++) {
                        boolean meet = Arcs.isIn(set, a) && Arcs.isIn(set, b) && !Arcs.has(ties, a, b);
                        if (meet) meetings |= 1L << bit;
                        bit++;
                    }
                }
            }
            return meetings;
        }

        void gather(int graph, int names) {
            int ties = ties(graph);
            long meetings = meetings(graph);
            int ways = 1 << Integer.bitCount(ties);
            for (int way = 0; way < ways; way++) {
                int other = directed(ties, way);
                if (Arcs.haveNoRound(other, names) && meetings(other) == meetings) add(other);
            }
        }

        private void add(int graph) {
            least = count == 0 ? graph : Math.min(least, graph);
            greatest = Math.max(greatest, graph);
            common = count == 0 ? graph : common & graph;
            count++;
        }

        private static int directed(int ties, int way) {
            int graph = 0;
            int rest = way;
            for (int a = 0; a < MAX_NAMES; a++) {
                for (int b = a + 1; b < MAX_NAMES; b++) {
                    if (!Arcs.has(ties, a, b)) continue;
                    graph |= (rest & 1) == 0 ? Arcs.arc(a, b) : Arcs.arc(b, a);
                    rest >>= 1;
                }
            }
            return graph;
        }
    }

    /** THE SHARES of ARCS. */
    private static final class Shares {
        private static final int SETS = 1 << SHARE_NAMES;
        // A weight is not above the product of what is below in eight FITS: sixteen factors each, up to 1242.
        // Eight weights together stay under 2^1320 so, and forty-two words hold 1344 bits.
        private static final int WEIGHT_ROOM = 42;
        private static final int SUM_ROOM = WEIGHT_ROOM * SHARE_NAMES;

        private final Sheet sheet;
        private final Powers powers;
        private final Powers least;
        // For each NAME and SET: the weights of all BOUNDED SETS of PARENTS out of the SET, together.
        private final Big[] weights;
        // For each SET of NAMES: the products of weights of all BOUNDED GRAPHS of these NAMES alone, together.
        private final Big[] sums;
        private final Big none;
        private final Big term;
        private final Big rest;
        private final Big divisor;
        private final Fraction share;
        private int shareFrom;
        private int shareTo;

        Shares(Sheet sheet, Powers powers) {
            this.sheet = sheet;
            this.powers = powers;
            least = new Powers();
            weights = new Big[SHARE_NAMES * SETS];
            for (int i = 0; i < weights.length; i++) {
                if (!Arcs.isIn(i % SETS, i / SETS)) weights[i] = new Big(WEIGHT_ROOM);
            }
            sums = new Big[SETS];
            for (int i = 0; i < sums.length; i++) sums[i] = new Big(SUM_ROOM);
            none = new Big(1);
            term = new Big(SUM_ROOM);
            rest = new Big(SUM_ROOM);
            divisor = new Big(SUM_ROOM);
            share = new Fraction(new Big(SUM_ROOM), new Big(SUM_ROOM));
            shareFrom = 0;
            shareTo = 0;
        }

        void forget() {
            share.ready = false;
        }

        Fraction of(int from, int to) {
            if (share.ready && shareFrom == from && shareTo == to) return share;
            int all = (1 << sheet.names) - 1;
            for (int c = 0; c < sheet.names; c++) weigh(c);
            sumGraphs(0);
            share.below.copy(sum(all));
            keepArc(from, to);
            sumGraphs(1 << to);
            share.above.copy(sum(all));
            lower();
            shareFrom = from;
            shareTo = to;
            share.ready = true;
            return share;
        }

        /**
         * THE FITS of a NAME with all its SETS of PARENTS, scaled alike to whole numbers as small as can be: the scale
         * goes out of a SHARE.
         */
        private void weigh(int name) {
            for (int set = 0; set < 1 << sheet.names; set++) {
                if (!isOpen(name, set)) continue;
                powers.forget();
                sheet.pourFit(name, set, powers);
                if (set == 0) least.copy(powers);
                else least.lowerTo(powers);
            }
            for (int set = 0; set < 1 << sheet.names; set++) {
                weight(name, set).become(0);
                if (!isOpen(name, set)) continue;
                powers.forget();
                sheet.pourFit(name, set, powers);
                powers.divide(least);
                powers.write(1, weight(name, set));
            }
            for (int p = 0; p < sheet.names; p++) {
                if (p != name) addSmaller(name, p);
            }
        }

        private void addSmaller(int name, int p) {
            for (int set = 0; set < 1 << sheet.names; set++) {
                boolean has = Arcs.isIn(set, p) && !Arcs.isIn(set, name);
                if (has) weight(name, set).plus(weight(name, set & ~(1 << p)));
            }
        }

        private boolean isOpen(int name, int set) {
            return !Arcs.isIn(set, name) && Integer.bitCount(set) <= sheet.most;
        }

        /** Only SETS of PARENTS with the first NAME count for the second one from now on. */
        private void keepArc(int from, int to) {
            for (int set = 0; set < 1 << sheet.names; set++) {
                if (!Arcs.isIn(set, from) || Arcs.isIn(set, to)) continue;
                Big without = weight(to, set & ~(1 << from));
                weight(to, set).minus(without);
                without.become(0);
            }
        }

        /** For all SETS that have these NAMES; the other sums stay as they are. */
        private void sumGraphs(int with) {
            for (int set = 0; set < 1 << sheet.names; set++) {
                if ((set & with) == with) sumGraphsOf(set);
            }
        }

        /**
         * Each GRAPH counts once for every SET of NAMES that are no PARENTS in it, added if these are odd in number and
         * taken away if they are even: that is once in all.
         */
        private void sumGraphsOf(int set) {
            Big sum = sum(set);
            sum.become(set == 0 ? 1 : 0);
            for (int odd = 1; odd >= 0; odd--) {
                for (int ends = 1; ends <= set; ends++) {
                    if ((ends & ~set) != 0 || (Integer.bitCount(ends) & 1) != odd) continue;
                    multiplyOut(set & ~ends, ends);
                    if (odd == 1) sum.plus(term);
                    else sum.minus(term);
                }
            }
        }

        private void multiplyOut(int others, int ends) {
            term.copy(sum(others));
            for (int c = 0; c < sheet.names; c++) {
                if (Arcs.isIn(ends, c)) term.times(weight(c, others));
            }
        }

        private void lower() {
            term.copy(share.below);
            rest.copy(share.above);
            divisor.copy(Big.commonDivisor(term, rest));
            divide(share.above);
            divide(share.below);
        }

        private void divide(Big number) {
            term.become(0);
            number.reduceBy(divisor, term);
            number.copy(term);
        }

        private Big weight(int name, int set) {
            int i = name * SETS + set;
            return i >= 0 && i < weights.length && weights[i] != null ? weights[i] : none;
        }

        private Big sum(int set) {
            return set >= 0 && set < sums.length && sums[set] != null ? sums[set] : none;
        }
    }

    /** The WAYS of two NAMES and their TABLES, of three values each: a value that a NAME lacks never comes. */
    private static final class Tables {
        private static final int KINDS = 3;
        private static final long[] FACTORIALS = {1L, 1L, 2L, 6L, 24L, 120L, 720L, 5040L, 40320L, 362880L, 3628800L,
            39916800L, 479001600L, 6227020800L, 87178291200L, 1307674368000L, 20922789888000L};

        private final Sheet sheet;
        private final int[] cells;
        private final int[] ofFirst;
        private final int[] ofSecond;

        Tables(Sheet sheet) {
            this.sheet = sheet;
            cells = new int[KINDS * KINDS];
            ofFirst = new int[KINDS];
            ofSecond = new int[KINDS];
        }

        void count(int a, int b, int c, int v) {
            for (int i = 0; i < cells.length; i++) cells[i] = 0;
            for (int row = 0; row < sheet.rows; row++) {
                if (c >= 0 && sheet.valueIn(row, c) != v) continue;
                int i = KINDS * sheet.valueIn(row, a) + sheet.valueIn(row, b);
                if (i >= 0 && i < cells.length) cells[i]++;
            }
            for (int k = 0; k < KINDS && k < ofFirst.length && k < ofSecond.length; k++) {
                ofFirst[k] = cell(k, 0) + cell(k, 1) + cell(k, 2);
                ofSecond[k] = cell(0, k) + cell(1, k) + cell(2, k);
            }
        }

        long allWays() {
            return deals(second(0), second(1), second(2));
        }

        long waysNotAbove() {
            long limit = 1;
            for (int k = 0; k < KINDS; k++) limit *= deals(cell(k, 0), cell(k, 1), cell(k, 2));
            long ways = 0;
            for (int i = 0; i <= first(0); i++) {
                for (int j = 0; i + j <= first(0); j++) ways += waysWith(i, j, limit);
            }
            return ways;
        }

        /** The first value of the first NAME has so many of the second NAME's values 0 and 1. */
        private long waysWith(int i, int j, long limit) {
            int left0 = second(0) - i;
            int left1 = second(1) - j;
            int left2 = second(2) - (first(0) - i - j);
            long given = deals(i, j, first(0) - i - j);
            long ways = 0;
            for (int k = 0; k <= first(1) && k <= left0; k++) {
                for (int l = 0; k + l <= first(1) && l <= left1; l++) {
                    int m = first(1) - k - l;
                    long weight = given * deals(k, l, m) * deals(left0 - k, left1 - l, left2 - m);
                    if (weight <= limit) ways += weight;
                }
            }
            return ways;
        }

        /** In how many orders so many things of three sorts lie; none, if a number is below 0. */
        private static long deals(int a, int b, int c) {
            if (a < 0 || b < 0 || c < 0 || a + b + c >= FACTORIALS.length) return 0;
            long alike = factorial(a) * factorial(b) * factorial(c);
            return alike > 0 ? factorial(a + b + c) / alike : 0;
        }

        private static long factorial(int n) {
            return n >= 0 && n < FACTORIALS.length ? FACTORIALS[n] : 1;
        }

        private int cell(int i, int j) {
            int at = KINDS * i + j;
            return at >= 0 && at < cells.length ? cells[at] : 0;
        }

        private int first(int k) {
            return k >= 0 && k < ofFirst.length ? ofFirst[k] : 0;
        }

        private int second(int k) {
            return k >= 0 && k < ofSecond.length ? ofSecond[k] : 0;
        }
    }
}
