import java.util.Arrays;

/**
 * Languages told by their monoids. What each call promises stands in the project's document; every call
 * tests its numbers first and answers a refusal instead of failing. No call makes an object: all rows are
 * made with the object and used again.
 */
public final class WordMonoids {
    public static final int NONE = -1, BAD = -2, STATE = -3, FULL = -4;

    private static final int MISSING = -11;
    private static final int OUTSIDE = -12;
    private static final int UNLIKE = -13;
    private static final int NEGATIVE = -14;
    private static final int FAULT_BASE = -100;

    private static final int MACHINES = 3;
    private static final int POINTS = 4;
    private static final int LETTERS = 3;
    private static final int WORD_LETTERS = 9;
    private static final int LISTED_LETTERS = 5;
    private static final int DRAWN_LETTERS = 99;
    private static final int SEEDS = 20;
    private static final int FORMULAS = 4;
    private static final int TAPE_BYTES = 60;
    private static final int OPEN_MOST = 6;
    private static final int SHEETS = 4;
    private static final int SHEET_ITEMS = 40;
    private static final int SORT_SHORTS = 0;
    private static final int SORT_INTS = 1;
    private static final int LAWS = 12;
    private static final int FED_MOST = 5;
    private static final int MOVES_BASE = 10;

    private final Machine[] machines = new Machine[MACHINES];
    private final Machine[] kept = new Machine[MACHINES];
    private final Formula[] formulas = new Formula[FORMULAS];
    private final Sheet[] sheets = new Sheet[SHEETS];
    private final Reader reader = new Reader();
    private final Words words = new Words();
    private final Laws laws = new Laws();
    private final Monoid monoid = laws.monoid;
    private final Known known = new Known();
    private final Pairs pairs = new Pairs();
    private int machineCount = 0;
    private int keptCount = NONE;
    private int formulaCount = 0;

    public WordMonoids() {
        for (int k = 0; k < MACHINES; k++) {
            machines[k] = new Machine();
            kept[k] = new Machine();
        }
        for (int k = 0; k < FORMULAS; k++) {
            formulas[k] = new Formula();
        }
        for (int k = 0; k < SHEETS; k++) {
            sheets[k] = new Sheet();
        }
    }

    // ---- machines

    public int machine(int points) {
        if (points < 1 || points > POINTS) {
            return BAD;
        }
        if (machineCount >= MACHINES) {
            return FULL;
        }
        machines[machineCount].renew(points);
        machineCount++;
        return machineCount - 1;
    }

    public int drop() {
        if (machineCount <= 0) {
            return STATE;
        }
        machineCount--;
        return machineCount;
    }

    public int step(int machine, int point, int letter, int to) {
        Machine m = machineAt(machine);
        if (m == null || !m.hasPoint(point) || !isLetter(letter) || !m.hasPoint(to)) {
            return BAD;
        }
        int was = m.next(point, letter);
        m.lead(point, letter, to);
        return was;
    }

    public int ends(int machine, int set) {
        Machine m = machineAt(machine);
        if (m == null || (set & ~m.everyPoint()) != 0) {
            return BAD;
        }
        int was = m.ends;
        m.ends = set;
        return was;
    }

    public int start(int machine, int point) {
        Machine m = machineAt(machine);
        if (m == null || !m.hasPoint(point)) {
            return BAD;
        }
        int was = m.start;
        m.start = point;
        return was;
    }

    public int of(int machine, int what) {
        Machine m = machineAt(machine);
        if (m == null) {
            return BAD;
        }
        if (what >= MOVES_BASE && what < MOVES_BASE + LETTERS * m.points) {
            return m.next((what - MOVES_BASE) / LETTERS, (what - MOVES_BASE) % LETTERS);
        }
        switch (what) {
            case 0:
                return m.points;
            case 1:
                return m.start;
            case 2:
                return m.ends;
            case 3:
                monoid.learn(m);
                return monoid.least.points;
            case 4:
                monoid.learn(m);
                return monoid.least.ends;
            default:
                return BAD;
        }
    }

    public int takes(int machine, int word) {
        Machine m = machineAt(machine);
        if (m == null || !words.read(word)) {
            return BAD;
        }
        return m.accepts(words) ? 1 : 0;
    }

    public int quotient(int machine, int letter, int side) {
        Machine m = machineAt(machine);
        if (m == null || !isLetter(letter) || side < 0 || side > 1) {
            return BAD;
        }
        if (side == 0) {
            m.start = m.next(m.start, letter);
            return m.start;
        }
        m.ends = m.pointsThatLeadToEnds(letter);
        return m.ends;
    }

    public int turn(int machine) {
        Machine m = machineAt(machine);
        if (m == null) {
            return BAD;
        }
        m.ends = m.everyPoint() & ~m.ends;
        return m.ends;
    }

    // ---- what words do

    public int size(int machine) {
        return learnt(machine) ? monoid.elements : BAD;
    }

    public int word(int machine, int i, int k) {
        if (!learnt(machine) || !monoid.hasElement(i) || k < NONE) {
            return BAD;
        }
        return k == NONE ? monoid.lettersOf(i) : monoid.letterOf(i, k);
    }

    public int element(int machine, int word) {
        if (!learnt(machine) || !words.read(word)) {
            return BAD;
        }
        int code = Monoid.IDENTITY;
        for (int k = 0; k < words.length; k++) {
            code = monoid.behind(code, words.letterAt(k));
        }
        return monoid.numberOf(code);
    }

    public int times(int machine, int i, int j) {
        if (!learnt(machine) || !monoid.hasElement(i) || !monoid.hasElement(j)) {
            return BAD;
        }
        return monoid.numberOf(Monoid.then(monoid.codeOf(i), monoid.codeOf(j)));
    }

    public int power(int machine, int i, int what) {
        if (!learnt(machine) || !monoid.hasElement(i) || what < 0 || what > 2) {
            return BAD;
        }
        if (what == 2) {
            return monoid.numberOf(monoid.omegaOf(monoid.codeOf(i)));
        }
        return what == 0 ? monoid.indexOf(i) : monoid.periodOf(i);
    }

    public int below(int machine, int i, int j, int side) {
        if (!learnt(machine) || !monoid.hasElement(i) || !monoid.hasElement(j) || side < 0 || side > 2) {
            return BAD;
        }
        monoid.gatherFrom(j, side);
        return monoid.isGathered(i) ? 1 : 0;
    }

    public int green(int machine, int what) {
        if (!learnt(machine)) {
            return BAD;
        }
        switch (what) {
            case 0:
                return monoid.idempotents();
            case 1:
            case 2:
            case 3:
                return monoid.classesBy(what - 1);
            case 4:
                return monoid.greatestPeriod();
            case 5:
                return monoid.takenElements();
            case 6:
                return monoid.zero();
            default:
                return BAD;
        }
    }

    public int holds(int machine) {
        if (!learnt(machine)) {
            return BAD;
        }
        int set = 0;
        for (int law = 0; law < LAWS; law++) {
            if (!laws.findWrong(law)) {
                set |= 1 << law;
            }
        }
        return set;
    }

    public int wrong(int machine, int law, int what) {
        if (!learnt(machine) || law < 0 || law >= LAWS || what < 0 || what > 1) {
            return BAD;
        }
        if (!laws.findWrong(law)) {
            return NONE;
        }
        return what == 0 ? laws.wrongI : laws.wrongJ;
    }

    // ---- what must be known

    public int level(int machine, int kind) {
        Machine m = machineAt(machine);
        if (m == null || kind < 0 || kind > 1) {
            return BAD;
        }
        for (int level = 0; level < Known.LEVELS; level++) {
            if (known.tellsTaken(m, kind, level)) {
                return level;
            }
        }
        return NONE;
    }

    public int separates(int machine, int other, int kind) {
        Machine one = machineAt(machine);
        Machine two = machineAt(other);
        if (one == null || two == null || kind < 0 || kind > 1) {
            return BAD;
        }
        for (int level = 0; level < Known.LEVELS; level++) {
            if (known.keepsApart(one, two, kind, level)) {
                return level;
            }
        }
        return NONE;
    }

    public long least(int machine, int other, int what) {
        Machine one = machineAt(machine);
        Machine two = machineAt(other);
        if (one == null || two == null || what < 0 || what > 2) {
            return BAD;
        }
        return pairs.leastWord(one, two, what);
    }

    // ---- formulas

    public int formula() {
        if (formulaCount >= FORMULAS) {
            return FULL;
        }
        if (!reader.readTape()) {
            return FAULT_BASE - reader.fault;
        }
        formulas[formulaCount].keep(reader.ops, reader.opCount);
        formulaCount++;
        return formulaCount - 1;
    }

    public int why(int i) {
        if (i < NONE) {
            return BAD;
        }
        return i == NONE ? reader.causeCount : reader.causeAt(i);
    }

    public int says(int formula, int word) {
        Formula f = formulaAt(formula);
        if (f == null || !words.read(word)) {
            return BAD;
        }
        return f.accepts(words) ? 1 : 0;
    }

    public int many(int sort, int number, int n) {
        Taker taker = takerAt(sort, number);
        if (taker == null || n < 0 || n > WORD_LETTERS) {
            return BAD;
        }
        int total = Words.howMany(n);
        int found = 0;
        words.first(n);
        for (int k = 0; k < total; k++) {
            if (taker.accepts(words)) {
                found++;
            }
            words.advance();
        }
        return found;
    }

    public int agree(int machine, int formula, int n) {
        Machine m = machineAt(machine);
        Formula f = formulaAt(formula);
        if (m == null || f == null || n < 0 || n > LISTED_LETTERS) {
            return BAD;
        }
        for (int length = 0; length <= n; length++) {
            int total = Words.howMany(length);
            words.first(length);
            for (int k = 0; k < total; k++) {
                if (m.accepts(words) != f.accepts(words)) {
                    return words.told();
                }
                words.advance();
            }
        }
        return NONE;
    }

    // ---- lots, what was told

    public int drawn(int machine, int seed, int n) {
        if (!learnt(machine) || n < 0 || n > DRAWN_LETTERS) {
            return BAD;
        }
        int z = seed;
        int code = Monoid.IDENTITY;
        for (int k = 0; k < n; k++) {
            z = nextLot(z);
            code = monoid.behind(code, lotLetter(z));
        }
        return monoid.numberOf(code);
    }

    public int chance(int machine, int seed, int m, int n, int part) {
        Machine drawer = machineAt(machine);
        if (drawer == null || m < 1 || m > SEEDS || n < 0 || n > DRAWN_LETTERS || part < 0 || part > 1) {
            return BAD;
        }
        int taken = 0;
        for (int k = 0; k < m; k++) {
            if (takesDrawn(drawer, seed + k, n)) {
                taken++;
            }
        }
        int common = commonDivisor(m, taken);
        int whole = part == 0 ? taken : m;
        return common > 0 ? whole / common : whole;
    }

    public int tells(int sheet, int sort, int number) {
        Sheet s = sheetAt(sheet);
        Taker taker = takerAt(sort, number);
        if (s == null || taker == null) {
            return BAD;
        }
        if (s.isMissing()) {
            return MISSING;
        }
        for (int two = 0; two < s.size / 2; two++) {
            int verdict = s.item(2 * two + 1);
            if (verdict < 0 || verdict > 1 || !words.read(s.item(2 * two))
                    || taker.accepts(words) != (verdict == 1)) {
                return two;
            }
        }
        return NONE;
    }

    public int film(int sheet, int sort, int number, int n) {
        Sheet s = sheetAt(sheet);
        Taker taker = takerAt(sort, number);
        if (s == null || taker == null || n < 0 || n > SHEET_ITEMS) {
            return BAD;
        }
        s.renew(SORT_INTS, n);
        int came = 0;
        for (int length = 0; length <= LISTED_LETTERS && came < n; length++) {
            int total = Words.howMany(length);
            words.first(length);
            for (int k = 0; k < total && came < n; k++) {
                if (taker.accepts(words)) {
                    s.write(came, words.told());
                    came++;
                }
                words.advance();
            }
        }
        return came;
    }

    public int feed(int n, int a, int b, int c, int d, int e) {
        if (n < 1 || n > FED_MOST || !isByte(a) || !isByte(b) || !isByte(c) || !isByte(d) || !isByte(e)) {
            return BAD;
        }
        if (reader.size + n > TAPE_BYTES) {
            return FULL;
        }
        for (int k = 0; k < n; k++) {
            reader.append(k == 0 ? a : k == 1 ? b : k == 2 ? c : k == 3 ? d : e);
        }
        return reader.size;
    }

    // ---- the image, the host

    public int image() {
        for (int k = 0; k < machineCount && k < MACHINES; k++) {
            kept[k].become(machines[k]);
        }
        keptCount = machineCount;
        return keptCount;
    }

    public int back() {
        if (keptCount < 0) {
            return STATE;
        }
        for (int k = 0; k < keptCount && k < MACHINES; k++) {
            machines[k].become(kept[k]);
        }
        machineCount = keptCount;
        return machineCount;
    }

    public int load(int sheet, int sort, int from, int machine) {
        Sheet s = sheetAt(sheet);
        Machine m = machineAt(machine);
        if (s == null || sort < SORT_SHORTS || sort > SORT_INTS || m == null) {
            return BAD;
        }
        if (s.isMissing()) {
            return MISSING;
        }
        if (s.sort != sort) {
            return UNLIKE;
        }
        if (!s.hasItem(from)) {
            return OUTSIDE;
        }
        int came = 0;
        for (int k = 0; k < LETTERS * m.points; k++) {
            if (!s.hasItem(from + k)) {
                return OUTSIDE;
            }
            int to = s.item(from + k);
            if (m.hasPoint(to)) {
                m.lead(k / LETTERS, k % LETTERS, to);
                came++;
            }
        }
        return came;
    }

    public int count(int what) {
        switch (what) {
            case 0:
                return machineCount;
            case 1:
                return formulaCount;
            case 2:
                return reader.size;
            case 3:
                return pointsOfAll();
            default:
                return BAD;
        }
    }

    public int sheet(int sheet, int sort, int n) {
        Sheet s = sheetAt(sheet);
        if (s == null || sort < Sheet.NO_SORT || sort > SORT_INTS) {
            return BAD;
        }
        if (sort == Sheet.NO_SORT) {
            s.renew(sort, 0);
            return 1;
        }
        if (n > SHEET_ITEMS) {
            return BAD;
        }
        if (n < 0) {
            return NEGATIVE;
        }
        s.renew(sort, n);
        return 1;
    }

    public int put(int sheet, int i, int v) {
        Sheet s = sheetAt(sheet);
        if (s == null) {
            return BAD;
        }
        if (s.isMissing()) {
            return MISSING;
        }
        if (!s.hasItem(i)) {
            return OUTSIDE;
        }
        s.write(i, v);
        return 1;
    }

    public int copy(int sheet, int i, int other, int j, int n) {
        Sheet source = sheetAt(sheet);
        Sheet target = sheetAt(other);
        if (source == null || target == null) {
            return BAD;
        }
        if (source.isMissing() || target.isMissing()) {
            return MISSING;
        }
        if (source.sort != target.sort) {
            return UNLIKE;
        }
        if (!source.hasRun(i, n) || !target.hasRun(j, n)) {
            return OUTSIDE;
        }
        System.arraycopy(source.items, i, target.items, j, n);
        return n;
    }

    // ---- finding and testing what the numbers of a call name

    private Machine machineAt(int number) {
        return number >= 0 && number < machineCount && number < MACHINES ? machines[number] : null;
    }

    private Formula formulaAt(int number) {
        return number >= 0 && number < formulaCount && number < FORMULAS ? formulas[number] : null;
    }

    private Sheet sheetAt(int number) {
        return number >= 0 && number < SHEETS ? sheets[number] : null;
    }

    private Taker takerAt(int sort, int number) {
        if (sort == 0) {
            return machineAt(number);
        }
        return sort == 1 ? formulaAt(number) : null;
    }

    private boolean learnt(int number) {
        Machine m = machineAt(number);
        if (m == null) {
            return false;
        }
        monoid.learn(m);
        return true;
    }

    private static boolean isLetter(int letter) {
        return letter >= 0 && letter < LETTERS;
    }

    private static boolean isByte(int value) {
        return value >= 0 && value <= 255;
    }

    private int pointsOfAll() {
        int sum = 0;
        for (int k = 0; k < machineCount && k < MACHINES; k++) {
            sum += machines[k].points;
        }
        return sum;
    }

    private static int nextLot(int z) {
        return z * 1103515245 + 12345;
    }

    private static int lotLetter(int z) {
        return (z >>> 9) % LETTERS;
    }

    private static boolean takesDrawn(Machine m, int seed, int n) {
        int z = seed;
        int point = m.start;
        for (int k = 0; k < n; k++) {
            z = nextLot(z);
            point = m.next(point, lotLetter(z));
        }
        return m.isEnd(point);
    }

    private static int commonDivisor(int a, int b) {
        int big = a;
        int small = b;
        for (int k = 0; k < SEEDS && small > 0; k++) {
            int rest = big % small;
            big = small;
            small = rest;
        }
        return big;
    }

    /** One WORD at a time: two bits a letter, the last letter lowest, so that it is read without a row. */
    private static final class Words {
        private int bits = 0;
        private int length = 0;

        boolean read(int number) {
            if (number < 0) {
                return false;
            }
            int read = 0;
            int digits = 0;
            for (int rest = number; rest > 0; rest /= 10) {
                int digit = rest % 10;
                if (digit < 1 || digit > LETTERS || digits >= WORD_LETTERS) {
                    return false;
                }
                read |= (digit - 1) << 2 * digits;
                digits++;
            }
            bits = read;
            length = digits;
            return true;
        }

        int letterAt(int k) {
            return bits >> 2 * (length - 1 - k) & 3;
        }

        void first(int n) {
            bits = 0;
            length = n;
        }

        /** To the next word of this length by number; what is behind the last one is none any more. */
        void advance() {
            bits++;
            for (int k = 0; k < length && (bits >> 2 * k & 3) == LETTERS; k++) {
                bits += 1 << 2 * k;
            }
        }

        int told() {
            int number = 0;
            for (int k = 0; k < length; k++) {
                number = number * 10 + letterAt(k) + 1;
            }
            return number;
        }

        static int howMany(int n) {
            int total = 1;
            for (int k = 0; k < n && k < WORD_LETTERS; k++) {
                total *= LETTERS;
            }
            return total;
        }
    }

    /** What takes words: a machine or a formula. */
    private abstract static class Taker {
        abstract boolean accepts(Words w);
    }

    private static final class Machine extends Taker {
        private final int[] moves = new int[POINTS * LETTERS];
        private int points = 0;
        private int start = 0;
        private int ends = 0;

        void renew(int n) {
            points = n;
            start = 0;
            ends = 0;
            for (int at = 0; at < moves.length; at++) {
                moves[at] = at / LETTERS;
            }
        }

        void become(Machine other) {
            points = other.points;
            start = other.start;
            ends = other.ends;
            System.arraycopy(other.moves, 0, moves, 0, moves.length);
        }

        boolean hasPoint(int point) {
            return point >= 0 && point < points;
        }

        int everyPoint() {
            return (1 << points) - 1;
        }

        boolean isEnd(int point) {
            return (ends >> point & 1) == 1;
        }

        int next(int point, int letter) {
            int at = LETTERS * point + letter;
            return at >= 0 && at < moves.length ? moves[at] : 0;
        }

        void lead(int point, int letter, int to) {
            int at = LETTERS * point + letter;
            if (at >= 0 && at < moves.length) {
                moves[at] = to;
            }
        }

        int pointsThatLeadToEnds(int letter) {
            int set = 0;
            for (int p = 0; p < points; p++) {
                if (isEnd(next(p, letter))) {
                    set |= 1 << p;
                }
            }
            return set;
        }

        boolean accepts(Words w) {
            int point = start;
            for (int k = 0; k < w.length; k++) {
                point = next(point, w.letterAt(k));
            }
            return isEnd(point);
        }

        /** All that the machine is, in one number: equal keys mean equal machines. */
        long key() {
            long key = points;
            key = key << 2 | start;
            key = key << 4 | ends;
            for (int at = 0; at < moves.length; at++) {
                key = key << 2 | moves[at];
            }
            return key;
        }
    }

    /** THE LEAST of a machine. */
    private static final class Least {
        private final int[] moves = new int[POINTS * LETTERS];
        private final int[] comesFrom = new int[POINTS];
        private final int[] newNumber = new int[POINTS];
        private int points = 0;
        private int ends = 0;
        // a bit for each two points that some word tells apart
        private int apart = 0;

        void minimise(Machine m) {
            findApart(m);
            Arrays.fill(newNumber, NONE);
            points = 0;
            ends = 0;
            numberFor(m, m.start);
            for (int p = 0; p < points && p < POINTS; p++) {
                for (int letter = 0; letter < LETTERS; letter++) {
                    moves[LETTERS * p + letter] = numberFor(m, m.next(comesFrom[p], letter));
                }
            }
        }

        int next(int point, int letter) {
            int at = LETTERS * point + letter;
            return at >= 0 && at < moves.length ? moves[at] : 0;
        }

        private int numberFor(Machine m, int point) {
            int twin = firstAlike(point);
            if (newNumber[twin] == NONE && points < POINTS) {
                newNumber[twin] = points;
                comesFrom[points] = twin;
                if (m.isEnd(twin)) {
                    ends |= 1 << points;
                }
                points++;
            }
            return newNumber[twin];
        }

        private int firstAlike(int point) {
            for (int p = 0; p < point && p < POINTS; p++) {
                if (!areApart(p, point)) {
                    return p;
                }
            }
            return point >= 0 && point < POINTS ? point : 0;
        }

        private boolean areApart(int p, int q) {
            return (apart >> (POINTS * p + q) & 1) == 1;
        }

        /** A round for each point is enough: each round but the last splits one class at least. */
        private void findApart(Machine m) {
            apart = 0;
            for (int round = 0; round <= m.points; round++) {
                for (int p = 0; p < m.points; p++) {
                    for (int q = 0; q < m.points; q++) {
                        if (m.isEnd(p) != m.isEnd(q) || leadApart(m, p, q)) {
                            apart |= 1 << (POINTS * p + q);
                        }
                    }
                }
            }
        }

        private boolean leadApart(Machine m, int p, int q) {
            for (int letter = 0; letter < LETTERS; letter++) {
                if (areApart(m.next(p, letter), m.next(q, letter))) {
                    return true;
                }
            }
            return false;
        }
    }

    /**
     * The ELEMENTS of the machine that was learnt last. What a word does is told by a code: two bits for
     * each of four points, the point to which it comes; points that THE LEAST doesn't have stay.
     */
    private static final class Monoid {
        private static final int CODES = 256;
        private static final int LAST_CODE = CODES - 1;
        private static final int IDENTITY = 0b11100100;

        private final Least least = new Least();
        private final int[] letterCodes = new int[LETTERS];
        private final int[] codes = new int[CODES];
        private final int[] numbers = new int[CODES];
        private final int[] parents = new int[CODES];
        private final int[] lastLetters = new int[CODES];
        private final int[] lengths = new int[CODES];
        private final int[] omegas = new int[CODES];
        private final int[] gathered = new int[CODES];
        private final int[] queue = new int[CODES];
        private final int[] idealSizes = new int[CODES];
        private int elements = 0;
        private boolean identityIsTie = false;
        // which gathering a mark in gathered is of, so that no row need be cleared
        private int gathering = 0;
        private long learntKey = NONE;

        /** What f does and then g. */
        static int then(int f, int g) {
            return (g >> (f << 1 & 6) & 3)
                    | (g >> (f >> 1 & 6) & 3) << 2
                    | (g >> (f >> 3 & 6) & 3) << 4
                    | (g >> (f >> 5 & 6) & 3) << 6;
        }

        static boolean isIdempotent(int code) {
            return then(code, code) == code;
        }

        void learn(Machine m) {
            long key = m.key();
            if (key == learntKey) {
                return;
            }
            learntKey = key;
            least.minimise(m);
            for (int letter = 0; letter < LETTERS; letter++) {
                letterCodes[letter] = codeOfLetter(letter);
            }
            findElements();
            for (int i = 0; i < elements && i < CODES; i++) {
                omegas[codes[i] & LAST_CODE] = findOmega(codes[i]);
            }
        }

        boolean hasElement(int i) {
            return i >= 0 && i < elements;
        }

        int codeOf(int i) {
            return codes[i & LAST_CODE];
        }

        int numberOf(int code) {
            return numbers[code & LAST_CODE];
        }

        int omegaOf(int code) {
            return omegas[code & LAST_CODE];
        }

        int behind(int code, int letter) {
            return letter >= 0 && letter < LETTERS ? then(code, letterCodes[letter]) : code;
        }

        int ahead(int code, int letter) {
            return letter >= 0 && letter < LETTERS ? then(letterCodes[letter], code) : code;
        }

        int lettersOf(int i) {
            return lengths[i & LAST_CODE];
        }

        int letterOf(int i, int k) {
            int length = lettersOf(i);
            if (k < 0 || k >= length) {
                return NONE;
            }
            int at = i & LAST_CODE;
            for (int left = length - 1; left > k; left--) {
                at = parents[at] & LAST_CODE;
            }
            return lastLetters[at];
        }

        boolean isTie(int i) {
            return isIdempotent(codeOf(i)) && (i != 0 || identityIsTie);
        }

        boolean isTaken(int i) {
            return (least.ends >> (codeOf(i) & 3) & 1) == 1;
        }

        /** A power is come to again just if OMEGA times it is itself. */
        int indexOf(int i) {
            int nth = codeOf(i);
            for (int n = 1; n < CODES; n++) {
                if (then(nth, omegaOf(codeOf(i))) == nth) {
                    return n;
                }
                nth = then(nth, codeOf(i));
            }
            return CODES;
        }

        /** Once round from OMEGA: all powers that are come to again have the same period. */
        int periodOf(int i) {
            int omega = omegaOf(codeOf(i));
            int later = then(omega, codeOf(i));
            for (int period = 1; period < CODES; period++) {
                if (later == omega) {
                    return period;
                }
                later = then(later, codeOf(i));
            }
            return CODES;
        }

        int idempotents() {
            int found = 0;
            for (int i = 0; i < elements; i++) {
                if (isIdempotent(codeOf(i))) {
                    found++;
                }
            }
            return found;
        }

        int greatestPeriod() {
            int greatest = 1;
            for (int i = 0; i < elements; i++) {
                greatest = Math.max(greatest, periodOf(i));
            }
            return greatest;
        }

        int takenElements() {
            int found = 0;
            for (int i = 0; i < elements; i++) {
                if (isTaken(i)) {
                    found++;
                }
            }
            return found;
        }

        int zero() {
            for (int i = 0; i < elements; i++) {
                if (isZero(codeOf(i))) {
                    return i;
                }
            }
            return NONE;
        }

        /** What comes from itself by each letter comes from itself by each word. */
        private boolean isZero(int code) {
            for (int letter = 0; letter < LETTERS; letter++) {
                if (behind(code, letter) != code || ahead(code, letter) != code) {
                    return false;
                }
            }
            return true;
        }

        /** Gathers all elements that come from j by a side: how many. */
        int gatherFrom(int j, int side) {
            gathering++;
            int tail = gather(codeOf(j), 0);
            for (int head = 0; head < tail && head < CODES; head++) {
                for (int letter = 0; letter < LETTERS; letter++) {
                    if (side != 1) {
                        tail = gather(behind(queue[head], letter), tail);
                    }
                    if (side != 0) {
                        tail = gather(ahead(queue[head], letter), tail);
                    }
                }
            }
            return tail;
        }

        /** Gathers all that is a tie times some element times the tie: how many. */
        int gatherAround(int tie) {
            gathering++;
            int tail = 0;
            for (int i = 0; i < elements; i++) {
                tail = gather(then(then(tie, codeOf(i)), tie), tail);
            }
            return tail;
        }

        int gatheredAt(int k) {
            return queue[k & LAST_CODE];
        }

        boolean isGathered(int i) {
            return gathered[codeOf(i) & LAST_CODE] == gathering;
        }

        /**
         * An element is of the class of an earlier one, if the earlier one comes from it and as many come
         * from the one as from the other: then the very same do.
         */
        int classesBy(int side) {
            int classes = 0;
            for (int j = 0; j < elements && j < CODES; j++) {
                idealSizes[j] = gatherFrom(j, side);
                boolean isFirst = true;
                for (int i = 0; i < j && isFirst; i++) {
                    isFirst = !isGathered(i) || idealSizes[i] != idealSizes[j];
                }
                if (isFirst) {
                    classes++;
                }
            }
            return classes;
        }

        private int gather(int code, int tail) {
            int at = code & LAST_CODE;
            if (gathered[at] == gathering || tail < 0 || tail >= CODES) {
                return tail;
            }
            gathered[at] = gathering;
            queue[tail] = at;
            return tail + 1;
        }

        private int codeOfLetter(int letter) {
            int code = 0;
            for (int p = 0; p < POINTS; p++) {
                int to = p < least.points ? least.next(p, letter) : p;
                code |= (to & 3) << 2 * p;
            }
            return code;
        }

        /** Going on letter by letter from the elements in their order finds each by its least word. */
        private void findElements() {
            Arrays.fill(numbers, NONE);
            elements = 0;
            identityIsTie = false;
            addElement(IDENTITY, 0, 0);
            for (int i = 0; i < elements && i < CODES; i++) {
                for (int letter = 0; letter < LETTERS; letter++) {
                    int code = behind(codes[i], letter);
                    if (code == IDENTITY) {
                        identityIsTie = true;
                    }
                    if (numberOf(code) == NONE) {
                        addElement(code, i, letter);
                    }
                }
            }
        }

        private void addElement(int code, int parent, int letter) {
            if (elements >= CODES || elements < 0) {
                return;
            }
            codes[elements] = code;
            numbers[code & LAST_CODE] = elements;
            parents[elements] = parent;
            lastLetters[elements] = letter;
            lengths[elements] = elements == 0 ? 0 : lengths[parent & LAST_CODE] + 1;
            elements++;
        }

        private int findOmega(int code) {
            int nth = code;
            for (int n = 1; n < CODES && !isIdempotent(nth); n++) {
                nth = then(nth, code);
            }
            return nth;
        }
    }

    /** LAWS over the elements that the monoid has learnt. */
    private static final class Laws {
        private final Monoid monoid = new Monoid();
        private int aroundCount = 0;
        private int wrongI = NONE;
        private int wrongJ = NONE;

        boolean findWrong(int law) {
            boolean byOne = law == 0 || law == 1 || law == 3;
            int others = byOne ? 1 : monoid.elements;
            for (int i = 0; i < monoid.elements; i++) {
                if (law == 7 && monoid.isTie(i)) {
                    aroundCount = monoid.gatherAround(monoid.codeOf(i));
                }
                for (int j = 0; j < others; j++) {
                    if (!isLawful(law, i, j)) {
                        wrongI = i;
                        wrongJ = byOne ? NONE : j;
                        return true;
                    }
                }
            }
            return false;
        }

        private boolean isLawful(int law, int i, int j) {
            int a = monoid.codeOf(i);
            int b = monoid.codeOf(j);
            switch (law) {
                case 0:
                    return Monoid.then(monoid.omegaOf(a), a) == monoid.omegaOf(a);
                case 1:
                    return i == 0 || !Monoid.isIdempotent(a);
                case 2:
                    return Monoid.then(a, b) == Monoid.then(b, a);
                case 3:
                    return Monoid.isIdempotent(a);
                case 4:
                case 5:
                case 6:
                case 11:
                    return isLawfulByOmegas(law, a, b);
                default:
                    return !monoid.isTie(i) || isLawfulOfTie(law, a, b);
            }
        }

        private boolean isLawfulByOmegas(int law, int a, int b) {
            int e = monoid.omegaOf(Monoid.then(a, b));
            switch (law) {
                case 4:
                    return Monoid.then(e, a) == e;
                case 5:
                    return Monoid.then(b, e) == e;
                case 6:
                    return Monoid.then(e, a) == e && Monoid.then(b, e) == e;
                default:
                    return Monoid.then(Monoid.then(e, monoid.omegaOf(Monoid.then(b, a))), e) == e;
            }
        }

        private boolean isLawfulOfTie(int law, int tie, int b) {
            switch (law) {
                case 7:
                    return isQuietAround(Monoid.then(Monoid.then(tie, b), tie));
                case 8:
                    return Monoid.then(b, tie) == tie;
                case 9:
                    return Monoid.then(tie, b) == tie;
                default:
                    return Monoid.then(Monoid.then(tie, b), tie) == tie;
            }
        }

        private boolean isQuietAround(int x) {
            if (!Monoid.isIdempotent(x)) {
                return false;
            }
            for (int k = 0; k < aroundCount; k++) {
                int y = monoid.gatheredAt(k);
                if (Monoid.then(x, y) != Monoid.then(y, x)) {
                    return false;
                }
            }
            return true;
        }
    }

    /** What is KNOWN of a word, as a number, and to which points of machines words lead of which it is. */
    private static final class Known {
        private static final int LEVELS = 3;
        // level 2 of kind 1: the empty word, or three first letters, three last ones, nine twos
        private static final int SORTS = 1 + LETTERS * LETTERS * 512;
        // of kind 1 just 1615 of these can be known of some word, of kind 0 fewer; each with each point
        private static final int PLACES = 1615 * POINTS;
        private static final int SHIFT_ONE = 0;
        private static final int SHIFT_TWO = POINTS;

        private final byte[] reached = new byte[SORTS];
        private final int[] queue = new int[PLACES];

        boolean tellsTaken(Machine m, int kind, int level) {
            Arrays.fill(reached, (byte) 0);
            explore(m, kind, level, SHIFT_ONE);
            int others = m.everyPoint() & ~m.ends;
            for (int sort = 0; sort < SORTS; sort++) {
                if ((reached[sort] & m.ends) != 0 && (reached[sort] & others) != 0) {
                    return false;
                }
            }
            return true;
        }

        boolean keepsApart(Machine one, Machine two, int kind, int level) {
            Arrays.fill(reached, (byte) 0);
            explore(one, kind, level, SHIFT_ONE);
            explore(two, kind, level, SHIFT_TWO);
            for (int sort = 0; sort < SORTS; sort++) {
                if ((reached[sort] & one.ends) != 0 && (reached[sort] & two.ends << SHIFT_TWO) != 0) {
                    return false;
                }
            }
            return true;
        }

        private void explore(Machine m, int kind, int level, int shift) {
            int tail = reach(0, m.start, shift, 0);
            for (int head = 0; head < tail && head < PLACES; head++) {
                int sort = queue[head] / POINTS;
                int point = queue[head] % POINTS;
                for (int letter = 0; letter < LETTERS; letter++) {
                    tail = reach(nextSort(kind, level, sort, letter), m.next(point, letter), shift, tail);
                }
            }
        }

        private int reach(int sort, int point, int shift, int tail) {
            if (sort < 0 || sort >= SORTS || tail < 0 || tail >= PLACES) {
                return tail;
            }
            int bit = 1 << (point + shift);
            if ((reached[sort] & bit) != 0) {
                return tail;
            }
            reached[sort] |= (byte) bit;
            queue[tail] = sort * POINTS + point;
            return tail + 1;
        }

        private static int nextSort(int kind, int level, int sort, int letter) {
            if (level == 0) {
                return 0;
            }
            if (level == 1) {
                return sort | 1 << letter;
            }
            return kind == 0 ? nextSubwords(sort, letter) : nextNeighbours(sort, letter);
        }

        /** Bits: three letters, then nine twos, the first letter of a two by threes. */
        private static int nextSubwords(int sort, int letter) {
            int next = sort | 1 << letter;
            for (int ahead = 0; ahead < LETTERS; ahead++) {
                if ((sort >> ahead & 1) == 1) {
                    next |= 1 << (LETTERS + LETTERS * ahead + letter);
                }
            }
            return next;
        }

        private static int nextNeighbours(int sort, int letter) {
            if (sort == 0) {
                return 1 + letter + LETTERS * letter;
            }
            int first = (sort - 1) % LETTERS;
            int last = (sort - 1) / LETTERS % LETTERS;
            int twos = (sort - 1) / (LETTERS * LETTERS) | 1 << (LETTERS * last + letter);
            return 1 + first + LETTERS * letter + LETTERS * LETTERS * twos;
        }
    }

    /** Two machines that read the same word. */
    private static final class Pairs {
        private static final int PAIRS = POINTS * POINTS;

        private final int[] queue = new int[PAIRS];
        private final long[] leastWords = new long[PAIRS];

        /** Pairs are come to in the order of their least words, so the first that is wanted tells. */
        long leastWord(Machine one, Machine two, int what) {
            queue[0] = one.start * POINTS + two.start;
            leastWords[0] = 0;
            int seen = 1 << queue[0];
            int tail = 1;
            for (int head = 0; head < tail && head < PAIRS; head++) {
                int p = queue[head] / POINTS;
                int q = queue[head] % POINTS;
                if (isWanted(one.isEnd(p), two.isEnd(q), what)) {
                    return leastWords[head];
                }
                for (int letter = 0; letter < LETTERS; letter++) {
                    int pair = one.next(p, letter) * POINTS + two.next(q, letter);
                    if ((seen >> pair & 1) == 0 && tail < PAIRS) {
                        seen |= 1 << pair;
                        queue[tail] = pair;
                        leastWords[tail] = leastWords[head] * 10 + letter + 1;
                        tail++;
                    }
                }
            }
            return NONE;
        }

        private static boolean isWanted(boolean one, boolean two, int what) {
            if (what == 0) {
                return one && two;
            }
            return what == 1 ? one != two : one && !two;
        }
    }

    /** A formula as a row of operations, each behind what it works on. */
    private static final class Formula extends Taker {
        private static final int AND = 0;
        private static final int OR = 1;
        private static final int NOT = 2;
        private static final int EMPTY = 3;
        private static final int MULTIPLE = 4;
        private static final int BEGINS = 5;
        private static final int FINISHES = 6;
        private static final int BESIDE = 7;
        private static final int BEHIND = 8;

        private final int[] ops = new int[TAPE_BYTES];
        private int opCount = 0;

        /** An atom in one number: its kind, how many (letters, or the digit), its letters as in Words. */
        static int atom(int kind, int many, int letters) {
            return kind | many << 4 | letters << 8;
        }

        void keep(int[] row, int length) {
            opCount = Math.max(0, Math.min(length, Math.min(row.length, ops.length)));
            System.arraycopy(row, 0, ops, 0, opCount);
        }

        /** At most two truths wait at each of the few open places, so they all fit into the bits of an int. */
        boolean accepts(Words w) {
            int truths = 0;
            for (int k = 0; k < opCount; k++) {
                switch (ops[k] & 15) {
                    case AND:
                        truths = truths >> 1 & (truths | ~1);
                        break;
                    case OR:
                        truths = truths >> 1 | truths & 1;
                        break;
                    case NOT:
                        truths ^= 1;
                        break;
                    default:
                        truths = truths << 1 | (isSo(ops[k], w) ? 1 : 0);
                        break;
                }
            }
            return (truths & 1) == 1;
        }

        private static int howMany(int op) {
            return op >> 4 & 15;
        }

        private static boolean isSo(int op, Words w) {
            int many = howMany(op);
            switch (op & 15) {
                case EMPTY:
                    return w.length == 0;
                case MULTIPLE:
                    return many > 0 && w.length % many == 0;
                case BEGINS:
                    return w.length >= many && w.bits >> 2 * (w.length - many) == op >> 8;
                case FINISHES:
                    return w.length >= many && (w.bits & (1 << 2 * many) - 1) == op >> 8;
                case BESIDE:
                    return standsBeside(op >> 8, many, w);
                default:
                    return standsScattered(op >> 8, many, w);
            }
        }

        private static boolean standsBeside(int letters, int many, Words w) {
            int mask = (1 << 2 * many) - 1;
            int rest = w.bits;
            for (int k = w.length; k >= many; k--) {
                if ((rest & mask) == letters) {
                    return true;
                }
                rest >>= 2;
            }
            return false;
        }

        /** From the end on: the last letter that fits is as good as any. */
        private static boolean standsScattered(int letters, int many, Words w) {
            int rest = w.bits;
            int wanted = letters;
            int left = many;
            for (int k = w.length; k >= left && left > 0; k--) {
                if ((rest & 3) == (wanted & 3)) {
                    wanted >>= 2;
                    left--;
                }
                rest >>= 2;
            }
            return left == 0;
        }
    }

    /** THE TAPE, and the reading of a formula from it. */
    private static final class Reader {
        private final int[] tape = new int[TAPE_BYTES];
        private final int[] ops = new int[TAPE_BYTES];
        private final int[] open = new int[OPEN_MOST];
        private final int[] causes = new int[OPEN_MOST + 2];
        private int size = 0;
        private int opCount = 0;
        private int openCount = 0;
        private int causeCount = 0;
        private int at = 0;
        private int fault = NONE;

        void append(int value) {
            if (size < TAPE_BYTES) {
                tape[size] = value;
                size++;
            }
        }

        int causeAt(int i) {
            return i >= 0 && i < causeCount && i < causes.length ? causes[i] : NONE;
        }

        /** Reads all of the tape, which is empty then: whether it is a formula; if not, fault tells where. */
        boolean readTape() {
            at = 0;
            opCount = 0;
            openCount = 0;
            causeCount = 0;
            fault = NONE;
            boolean read = readEither();
            if (read && at < size) {
                read = refuse();
            }
            if (!read) {
                keepCauses();
            }
            size = 0;
            return read;
        }

        private boolean readEither() {
            if (!readBoth()) {
                return false;
            }
            for (int k = 0; k < TAPE_BYTES && peek() == '|'; k++) {
                at++;
                if (!readBoth()) {
                    return false;
                }
                emit(Formula.OR);
            }
            return true;
        }

        private boolean readBoth() {
            if (!readOne()) {
                return false;
            }
            for (int k = 0; k < TAPE_BYTES && peek() == '&'; k++) {
                at++;
                if (!readOne()) {
                    return false;
                }
                emit(Formula.AND);
            }
            return true;
        }

        private boolean readOne() {
            int sign = peek();
            if (sign != '!' && sign != '(') {
                return readAtom();
            }
            if (openCount < 0 || openCount >= OPEN_MOST) {
                return refuse();
            }
            open[openCount] = at;
            openCount++;
            at++;
            if (!(sign == '!' ? readNegated() : readEnclosed())) {
                return false;
            }
            openCount--;
            return true;
        }

        private boolean readNegated() {
            if (!readOne()) {
                return false;
            }
            emit(Formula.NOT);
            return true;
        }

        private boolean readEnclosed() {
            if (!readEither()) {
                return false;
            }
            if (peek() != ')') {
                return refuse();
            }
            at++;
            return true;
        }

        private boolean readAtom() {
            switch (peek()) {
                case 'e':
                    at++;
                    emit(Formula.EMPTY);
                    return true;
                case '%':
                    return readMultiple();
                case '^':
                    return readLetters(Formula.BEGINS);
                case '$':
                    return readLetters(Formula.FINISHES);
                case '#':
                    return readLetters(Formula.BESIDE);
                case '~':
                    return readLetters(Formula.BEHIND);
                default:
                    return refuse();
            }
        }

        private boolean readMultiple() {
            at++;
            int digit = peek();
            if (digit < '2' || digit > '5') {
                return refuse();
            }
            at++;
            emit(Formula.atom(Formula.MULTIPLE, digit - '0', 0));
            return true;
        }

        private boolean readLetters(int kind) {
            at++;
            int many = 0;
            int letters = 0;
            while (many < LETTERS && peek() >= 'a' && peek() <= 'c') {
                letters = letters << 2 | (peek() - 'a');
                many++;
                at++;
            }
            if (many == 0) {
                return refuse();
            }
            emit(Formula.atom(kind, many, letters));
            return true;
        }

        private int peek() {
            return at >= 0 && at < size && at < TAPE_BYTES ? tape[at] : NONE;
        }

        private void emit(int op) {
            if (opCount >= 0 && opCount < ops.length) {
                ops[opCount] = op;
                opCount++;
            }
        }

        private boolean refuse() {
            fault = at;
            return false;
        }

        private void keepCauses() {
            causes[0] = 0;
            for (int k = 0; k < openCount && k < OPEN_MOST; k++) {
                causes[k + 1] = open[k];
            }
            causeCount = Math.min(openCount, OPEN_MOST) + 2;
            causes[causeCount - 1] = fault;
        }
    }

    /** A row of numbers; what is written to shorts is cut to what a short can hold. */
    private static final class Sheet {
        private static final int NO_SORT = -1;

        private final int[] items = new int[SHEET_ITEMS];
        private int sort = NO_SORT;
        private int size = 0;

        void renew(int newSort, int n) {
            sort = newSort;
            size = Math.max(0, Math.min(n, SHEET_ITEMS));
            Arrays.fill(items, 0);
        }

        boolean isMissing() {
            return sort == NO_SORT;
        }

        boolean hasItem(int i) {
            return i >= 0 && i < size;
        }

        /** By differences, so that no sum can leave the ints. */
        boolean hasRun(int i, int n) {
            return i >= 0 && n >= 0 && i <= size && n <= size - i;
        }

        int item(int i) {
            return i >= 0 && i < SHEET_ITEMS ? items[i] : 0;
        }

        void write(int i, int v) {
            if (i >= 0 && i < SHEET_ITEMS) {
                items[i] = sort == SORT_SHORTS ? (short) v : v;
            }
        }
    }
}
