import java.util.Arrays;

/** How likely each part of a chair is what it seems; README.md tells how to use it. */
public final class ChairOld {
    public static final int BAD = -1, NOT = -2, FULL = -3, STATE = -5, VOID = -2000000000;

    private static final int NOTHING_THERE = -11, OTHER_KIND = -12, NO_PLACE = -13, BELOW_ZERO = -14;
    private static final int TIMES = 30, KINDS = 6, MARKS = 6, SETS = 64, ALL_MARKS = 63;
    private static final int MOST_PARTS = 8, HUNDREDTHS = 100, TRUE_KIND = 0;

    // What mend() can change, row by row: BELIEF, VALUE, MINUTES, COST.
    private static final int BELIEF = 0, VALUE = 1, MINUTES = 2, COST = 3, SORTS_TOLD = 4;
    private static final int[] LEAST_TOLD = {0, 0, 1, 0};
    private static final int[] MOST_TOLD = {9, 99, 9, 99};

    private final Told told = new Told();
    private final Laws laws = new Laws();
    private final Reader reader = new Reader();
    private final Scale scale = new Scale(told, laws);
    private final Papers papers = new Papers();
    private final Bodies bodies = new Bodies();
    private final Shelves shelves = new Shelves();
    private final Piece[] pieces = new Piece[MOST_PARTS];
    private int pieceCount = 0;
    private final int[] whens = new int[MOST_PARTS];
    private final int[] keptLooked = new int[MOST_PARTS];
    private final int[] keptThere = new int[MOST_PARTS];
    private int keptCount = 0;
    private boolean hasImage = false;

    public ChairOld() {
    }

    // ---- parts, marks

    public int part(int wp) {
        if (!within(wp, 0, 99)) {
            return BAD;
        }
        if (pieceCount >= MOST_PARTS) {
            return FULL;
        }
        addPiece(wp / 10, wp % 10);
        return pieceCount - 1;
    }

    public int parts(int shelf, int i, int n) {
        if (!isShelf(shelf) || !within(n, 1, MOST_PARTS)) {
            return BAD;
        }
        int sort = shelves.sortOn(shelf);
        if (sort == Shelves.EMPTY) {
            return 0;
        }
        if (sort != Shelves.BYTES) {
            return OTHER_KIND;
        }
        int came = 0;
        // i + 2 * came can't wrap: once one came, i lies within the row.
        while (came < n && addFromRow(shelf, i + 2 * came)) {
            came++;
        }
        return came;
    }

    public int mend(int number, int what, int v) {
        if (!within(what, 0, SORTS_TOLD - 1) || !within(number, 0, KINDS - 1)) {
            return BAD;
        }
        if (!within(v, LEAST_TOLD[what], MOST_TOLD[what])) {
            return BAD;
        }
        return told.change(what, number, v);
    }

    public int find(int pm, int v) {
        Piece piece = pieceAt(pm / 10);
        int mark = pm % 10;
        if (piece == null || !isMark(mark) || !within(v, 0, 2)) {
            return BAD;
        }
        int was = piece.foundOf(mark);
        piece.setFound(mark, v);
        return was;
    }

    public int of(int number, int what) {
        if (what >= 20) {
            return numberTold(number, what);
        }
        Piece piece = pieceAt(number);
        if (piece == null) {
            return BAD;
        }
        if (what == 0) {
            return piece.wood;
        }
        if (what == 1) {
            return piece.place;
        }
        return within(what, 10, 15) ? piece.foundOf(what - 10) : BAD;
    }

    public int feed(int letter) {
        if (!within(letter, 0, 255)) {
            return BAD;
        }
        return reader.take(letter) ? reader.length : FULL;
    }

    public int law(int mark) {
        if (!isMark(mark)) {
            return BAD;
        }
        int fault = reader.read();
        reader.length = 0;
        if (fault >= 0) {
            return -100 - fault;
        }
        laws.set(mark, reader.code, reader.size);
        for (int i = 0; i < pieceCount; i++) {
            forgetNumbers(pieceAt(i), mark);
        }
        return 1;
    }

    public int number(int pm, int kt) {
        Piece piece = pieceAt(pm / 10);
        int mark = pm % 10;
        int kind = kt / 100;
        int time = kt % 100;
        if (piece == null || !isMark(mark) || !isKind(kind) || !isTime(time)) {
            return BAD;
        }
        piece.learn(laws, 1 << mark);
        return piece.numberAt(mark, kind, time);
    }

    // ---- what it is

    public long likely(int pk, int part) {
        Piece piece = pieceAt(pk / 10);
        int kind = pk % 10;
        if (piece == null || !isKind(kind) || !within(part, 0, 1)) {
            return Long.MIN_VALUE;
        }
        long below = scale.weighFound(piece);
        long above = scale.sums[kind];
        long common = greatestDivisor(below, above);
        // Only where all is 0: then it is 0 by 1.
        if (common == 0) {
            return part;
        }
        return part == 0 ? above / common : below / common;
    }

    public int percent(int pk) {
        Piece piece = pieceAt(pk / 10);
        int kind = pk % 10;
        if (piece == null || !isKind(kind)) {
            return BAD;
        }
        return scale.percentFound(piece, kind);
    }

    public int likeliest(int part) {
        Piece piece = pieceAt(part);
        if (piece == null) {
            return BAD;
        }
        scale.weighFound(piece);
        return scale.greatestKind();
    }

    public int when(int pk, int what) {
        Piece piece = pieceAt(pk / 10);
        int kind = pk % 10;
        if (piece == null || !isKind(kind) || !within(what, 0, 2)) {
            return BAD;
        }
        scale.weighFound(piece);
        if (what == 0) {
            return scale.timeOfGreatest(piece, kind);
        }
        return what == 1 ? scale.firstTime(piece, kind) : scale.lastTime(piece, kind);
    }

    public int whole(int what) {
        if (!within(what, 0, 1)) {
            return BAD;
        }
        return what == 0 ? allTrue() : atLeastTwoNot();
    }

    public int odd() {
        int trueParts = 0;
        for (int i = 0; i < pieceCount && i < whens.length; i++) {
            whens[i] = whenTrue(pieceAt(i));
            trueParts += whens[i] >= 0 ? 1 : 0;
        }
        int middle = valueAtRank(whens, pieceCount, (trueParts - 1) / 2);
        int bits = 0;
        for (int i = 0; i < pieceCount && i < whens.length; i++) {
            if (whens[i] >= 0 && Math.abs(whens[i] - middle) > 2) {
                bits |= 1 << i;
            }
        }
        return bits;
    }

    // ---- looking, making

    public int next(int part) {
        Piece piece = pieceAt(part);
        if (piece == null) {
            return BAD;
        }
        int best = NOT;
        long least = 0;
        for (int mark = 0; mark < MARKS; mark++) {
            if (!hasBit(piece.looked, mark)) {
                long left = scale.greaterSum(piece, mark) * told.get(MINUTES, mark);
                if (best == NOT || left < least) {
                    best = mark;
                    least = left;
                }
            }
        }
        return best;
    }

    public int named(int part, int marks) {
        Piece piece = pieceAt(part);
        if (piece == null || !isSet(marks)) {
            return BAD;
        }
        int set = marks & ~piece.looked;
        long all = scale.fillWays(piece, piece.looked, piece.there, set);
        return scale.namedBy(set, all);
    }

    public int plan(int part, int m) {
        Piece piece = pieceAt(part);
        if (piece == null || !within(m, 0, 54)) {
            return BAD;
        }
        int free = ALL_MARKS & ~piece.looked;
        long all = scale.fillWays(piece, piece.looked, piece.there, free);
        return all == 0 ? NOT : bestPlan(free, m, all);
    }

    public int believed(int part, int marks) {
        Piece piece = pieceAt(part);
        if (piece == null || !isSet(marks)) {
            return BAD;
        }
        return beliefInMade(piece, marks);
    }

    public int cheapest(int part, int b, int what) {
        Piece piece = pieceAt(part);
        if (piece == null || !within(b, 0, HUNDREDTHS) || !within(what, 0, 1)) {
            return BAD;
        }
        scale.fillWays(piece, 0, 0, ALL_MARKS);
        int best = NOT;
        int least = NOT;
        for (int set = 0; set < SETS; set++) {
            int cost = told.sumOver(COST, set);
            if ((best == NOT || cost < least) && scale.percentOf(TRUE_KIND, scale.takeWay(set)) >= b) {
                best = set;
                least = cost;
            }
        }
        return what == 0 ? best : least;
    }

    public int spoils(int part, int marks) {
        Piece piece = pieceAt(part);
        if (piece == null || !isSet(marks)) {
            return BAD;
        }
        int worst = NOT;
        int least = 0;
        for (int mark = 0; mark < MARKS; mark++) {
            if (hasBit(marks, mark)) {
                int without = beliefInMade(piece, marks & ~(1 << mark));
                if (worst == NOT || without < least) {
                    worst = mark;
                    least = without;
                }
            }
        }
        return worst;
    }

    public int price(int part) {
        if (part != -1) {
            Piece piece = pieceAt(part);
            return piece == null ? BAD : worthOf(piece);
        }
        int sum = 0;
        for (int i = 0; i < pieceCount; i++) {
            sum += worthOf(pieceAt(i));
        }
        return sum;
    }

    // ---- papers, draws

    public int paper(int ft, int house) {
        int from = ft / 100;
        int to = ft % 100;
        if (!isTime(from) || !isTime(to) || from > to || !within(house, 0, 9)) {
            return BAD;
        }
        return papers.add(from, to, house);
    }

    public int papers(int what) {
        if (!within(what, 0, 1)) {
            return BAD;
        }
        return what == 0 ? papers.firstClash() : papers.gaps();
    }

    public int house(int time) {
        return isTime(time) ? papers.houseAt(time) : BAD;
    }

    public int drawn(int seed, int n, int pkt) {
        Piece piece = pieceAt(pkt / 1000);
        int kind = pkt / 100 % 10;
        int time = pkt % 100;
        if (piece == null || !isKind(kind) || !isTime(time) || !within(n, 1, 30)) {
            return BAD;
        }
        scale.fillWays(piece, 0, 0, ALL_MARKS);
        int z = seed;
        int hits = 0;
        for (int turn = 0; turn < n; turn++) {
            int set = 0;
            for (int mark = 0; mark < MARKS; mark++) {
                z = z * 1103515245 + 12345;
                if ((z >>> 8) % 100 < piece.numberAt(mark, kind, time)) {
                    set |= 1 << mark;
                }
            }
            scale.takeWay(set);
            hits += scale.greatestKind() == kind ? 1 : 0;
        }
        return hits;
    }

    public int image() {
        for (int i = 0; i < pieceCount && i < MOST_PARTS; i++) {
            Piece piece = pieceAt(i);
            keptLooked[i] = piece == null ? 0 : piece.looked;
            keptThere[i] = piece == null ? 0 : piece.there;
        }
        keptCount = pieceCount;
        hasImage = true;
        return pieceCount;
    }

    public int back() {
        if (!hasImage) {
            return STATE;
        }
        for (int i = 0; i < pieceCount && i < MOST_PARTS; i++) {
            Piece piece = pieceAt(i);
            if (piece != null) {
                piece.looked = i < keptCount ? keptLooked[i] : 0;
                piece.there = i < keptCount ? keptThere[i] : 0;
            }
        }
        return pieceCount;
    }

    public int undo() {
        return told.stepBack();
    }

    public int redo() {
        return told.stepAgain();
    }

    // ---- acts, shelves

    public int body(int kind) {
        return Bodies.isBodyKind(kind) ? bodies.add(kind) : BAD;
    }

    public int act(int body, int act, int x) {
        return bodies.perform(body, act, x);
    }

    public int trace(int i) {
        return bodies.ranAt(i);
    }

    public int keep(int shelf, int body) {
        if (!isShelf(shelf) || !within(body, -1, bodies.many - 1)) {
            return BAD;
        }
        shelves.hold(shelf, body);
        return 1;
    }

    public int row(int shelf, int sort, int n) {
        if (!isShelf(shelf) || !within(sort, Shelves.BYTES, Shelves.BOOLEANS) || n > Shelves.LONGEST) {
            return BAD;
        }
        if (n < 0) {
            return BELOW_ZERO;
        }
        shelves.holdRow(shelf, sort, n);
        return 1;
    }

    public int put(int shelf, int i, long v) {
        int refusal = isShelf(shelf) ? shelves.refusal(shelf, i) : BAD;
        if (refusal != 0) {
            return refusal;
        }
        shelves.setCell(shelf, i, v);
        return 1;
    }

    public long element(int shelf, int i) {
        if (!isShelf(shelf) || shelves.refusal(shelf, i) != 0) {
            return Long.MIN_VALUE;
        }
        return shelves.cell(shelf, i);
    }

    public int shift(int shelf, int i, int other, int j, int n) {
        if (!isShelf(shelf) || !isShelf(other)) {
            return BAD;
        }
        return shelves.copy(shelf, i, other, j, n);
    }

    public int taken(int shelf, int k) {
        if (!isShelf(shelf) || !Bodies.isBodyKind(k)) {
            return BAD;
        }
        int sort = shelves.sortOn(shelf);
        if (sort == Shelves.EMPTY) {
            return NOTHING_THERE;
        }
        int kind = sort == Shelves.BODY ? bodies.kindOf(shelves.bodyOn(shelf)) : NOT;
        return Bodies.isUnder(kind, k) ? kind : OTHER_KIND;
    }

    public int count(int what) {
        switch (what) {
            case 0: return pieceCount;
            case 1: return papers.many;
            case 2: return marksLookedFor();
            case 3: return reader.length;
            case 4: return told.done;
            case 5: return bodies.many;
            case 6: return bodies.runs;
            default: return BAD;
        }
    }

    // ---- what the calls share

    private static boolean within(int v, int least, int most) {
        return v >= least && v <= most;
    }

    private static boolean isKind(int kind) {
        return within(kind, 0, KINDS - 1);
    }

    private static boolean isMark(int mark) {
        return within(mark, 0, MARKS - 1);
    }

    private static boolean isTime(int time) {
        return within(time, 0, TIMES - 1);
    }

    private static boolean isSet(int marks) {
        return within(marks, 0, ALL_MARKS);
    }

    private static boolean isShelf(int shelf) {
        return within(shelf, 0, Shelves.MANY - 1);
    }

    private static boolean hasBit(int bits, int bit) {
        return (bits >> bit & 1) == 1;
    }

    private static long greatestDivisor(long a, long b) {
        long high = a;
        long low = b;
        // Each two turns halve the numbers at least, so 200 are more than longs need.
        for (int turn = 0; turn < 200 && low != 0; turn++) {
            long rest = high % low;
            high = low;
            low = rest;
        }
        return high;
    }

    /** The number that has so many lesser ones ahead of it in order; those below 0 don't count. */
    private static int valueAtRank(int[] numbers, int many, int rank) {
        int ahead = 0;
        for (int time = 0; time < TIMES; time++) {
            for (int i = 0; i < many && i < numbers.length; i++) {
                ahead += numbers[i] == time ? 1 : 0;
            }
            if (ahead > rank) {
                return time;
            }
        }
        return 0;
    }

    private Piece pieceAt(int part) {
        return within(part, 0, pieceCount - 1) && part < MOST_PARTS ? pieces[part] : null;
    }

    private void addPiece(int wood, int place) {
        if (pieceCount < MOST_PARTS) {
            pieces[pieceCount] = new Piece(wood, place);
            pieceCount++;
        }
    }

    private boolean addFromRow(int shelf, int place) {
        if (pieceCount >= MOST_PARTS || place < 0 || place >= shelves.lengthOn(shelf) - 1) {
            return false;
        }
        long wood = shelves.cell(shelf, place);
        long where = shelves.cell(shelf, place + 1);
        if (wood < 0 || wood > 9 || where < 0 || where > 9) {
            return false;
        }
        addPiece((int) wood, (int) where);
        return true;
    }

    private int numberTold(int number, int what) {
        if (!within(number, 0, KINDS - 1)) {
            return BAD;
        }
        switch (what) {
            case 20: return told.get(BELIEF, number);
            case 21: return told.get(VALUE, number);
            case 30: return told.get(MINUTES, number);
            case 31: return told.get(COST, number);
            default: return BAD;
        }
    }

    private static void forgetNumbers(Piece piece, int mark) {
        if (piece != null) {
            piece.known &= ~(1 << mark);
        }
    }

    private int allTrue() {
        int whole = HUNDREDTHS;
        for (int i = 0; i < pieceCount; i++) {
            whole = whole * scale.percentFound(pieceAt(i), TRUE_KIND) / HUNDREDTHS;
        }
        return whole;
    }

    private int atLeastTwoNot() {
        long none = 1;
        long one = 0;
        long more = 0;
        // With two parts hundredths of hundredths are ten thousandths; each further part makes them finer.
        long finer = 1;
        for (int i = 0; i < pieceCount; i++) {
            long so = scale.percentFound(pieceAt(i), TRUE_KIND);
            long not = HUNDREDTHS - so;
            more = more * HUNDREDTHS + one * not;
            one = one * so + none * not;
            none = none * so;
            finer = i < 2 ? 1 : finer * HUNDREDTHS;
        }
        return finer == 0 ? 0 : (int) (more / finer);
    }

    private int whenTrue(Piece piece) {
        if (piece == null) {
            return NOT;
        }
        scale.weighFound(piece);
        return scale.greatestKind() == TRUE_KIND ? scale.timeOfGreatest(piece, TRUE_KIND) : NOT;
    }

    private int bestPlan(int free, int m, long all) {
        int best = 0;
        int bestNamed = -1;
        int bestMinutes = 0;
        for (int set = 0; set < SETS; set++) {
            int minutes = told.sumOver(MINUTES, set);
            if ((set & ~free) == 0 && minutes <= m) {
                int named = scale.namedBy(set, all);
                if (named > bestNamed || named == bestNamed && minutes < bestMinutes) {
                    best = set;
                    bestNamed = named;
                    bestMinutes = minutes;
                }
            }
        }
        return best;
    }

    private int beliefInMade(Piece piece, int marks) {
        return scale.percentOf(TRUE_KIND, scale.weigh(piece, ALL_MARKS, marks));
    }

    private int worthOf(Piece piece) {
        if (piece == null) {
            return 0;
        }
        long all = scale.weighFound(piece);
        int sum = 0;
        for (int kind = 0; kind < KINDS; kind++) {
            sum += told.get(VALUE, kind) * scale.percentOf(kind, all);
        }
        return sum / HUNDREDTHS;
    }

    private int marksLookedFor() {
        int sum = 0;
        for (int i = 0; i < pieceCount; i++) {
            Piece piece = pieceAt(i);
            sum += piece == null ? 0 : Integer.bitCount(piece.looked);
        }
        return sum;
    }

    /** A PART: what was found on it, and the numbers of its marks as far as they were asked for. */
    private static final class Piece {
        final int wood;
        final int place;
        int looked = 0;
        int there = 0;
        int known = 0;
        // The laws are dear to work out, and only law() changes what they give.
        final int[] numbers = new int[MARKS * KINDS * TIMES];

        Piece(int wood, int place) {
            this.wood = wood;
            this.place = place;
        }

        int foundOf(int mark) {
            if (!hasBit(looked, mark)) {
                return 0;
            }
            return hasBit(there, mark) ? 1 : 2;
        }

        void setFound(int mark, int v) {
            int bit = 1 << mark;
            looked = v == 0 ? looked & ~bit : looked | bit;
            there = v == 1 ? there | bit : there & ~bit;
        }

        int numberAt(int mark, int kind, int time) {
            int at = (mark * KINDS + kind) * TIMES + time;
            return at >= 0 && at < numbers.length ? numbers[at] : 0;
        }

        void learn(Laws laws, int marks) {
            int missing = marks & ~known;
            for (int at = 0; at < numbers.length && missing != 0; at++) {
                int mark = at / (KINDS * TIMES);
                if (hasBit(missing, mark)) {
                    int worth = laws.worth(mark, at / TIMES % KINDS, at % TIMES, wood, place);
                    numbers[at] = Math.max(0, Math.min(HUNDREDTHS, worth));
                }
            }
            known |= marks;
        }
    }

    /** Sums of WEIGHTS; they stay in rows made once, so that no call makes new ones. */
    private static final class Scale {
        private final Told told;
        private final Laws laws;
        final long[] sums = new long[KINDS];
        // Of each kind and each set of marks that are there: the sum over all times.
        private final long[] ways = new long[KINDS * SETS];
        private final long[] merged = new long[KINDS * SETS];
        private final long[] products = new long[SETS];

        Scale(Told told, Laws laws) {
            this.told = told;
            this.laws = laws;
        }

        long weighFound(Piece piece) {
            return weigh(piece, piece.looked, piece.there);
        }

        /** Leaves each kind's sum in sums and answers that of all. */
        long weigh(Piece piece, int looked, int there) {
            piece.learn(laws, looked);
            long all = 0;
            for (int kind = 0; kind < KINDS; kind++) {
                long sum = 0;
                for (int time = 0; time < TIMES && told.get(BELIEF, kind) != 0; time++) {
                    sum += weight(piece, kind, time, looked, there);
                }
                sums[kind] = sum;
                all += sum;
            }
            return all;
        }

        private long weight(Piece piece, int kind, int time, int looked, int there) {
            long weight = told.get(BELIEF, kind);
            for (int mark = 0; mark < MARKS; mark++) {
                if (hasBit(looked, mark)) {
                    int number = piece.numberAt(mark, kind, time);
                    weight *= hasBit(there, mark) ? number : HUNDREDTHS - number;
                }
            }
            return weight;
        }

        /** Only once the piece was weighed: that works out the numbers. */
        private long weightFound(Piece piece, int kind, int time) {
            return weight(piece, kind, time, piece.looked, piece.there);
        }

        int percentFound(Piece piece, int kind) {
            return piece == null ? 0 : percentOf(kind, weighFound(piece));
        }

        int percentOf(int kind, long all) {
            return all == 0 || !isKind(kind) ? 0 : (int) (sums[kind] * HUNDREDTHS / all);
        }

        int greatestKind() {
            int best = NOT;
            long greatest = 0;
            for (int kind = 0; kind < KINDS; kind++) {
                if (sums[kind] > greatest) {
                    best = kind;
                    greatest = sums[kind];
                }
            }
            return best;
        }

        int timeOfGreatest(Piece piece, int kind) {
            int best = NOT;
            long greatest = 0;
            for (int time = 0; time < TIMES; time++) {
                long weight = weightFound(piece, kind, time);
                if (weight > greatest) {
                    best = time;
                    greatest = weight;
                }
            }
            return best;
        }

        int firstTime(Piece piece, int kind) {
            for (int time = 0; time < TIMES; time++) {
                if (weightFound(piece, kind, time) > 0) {
                    return time;
                }
            }
            return NOT;
        }

        int lastTime(Piece piece, int kind) {
            for (int time = TIMES - 1; time >= 0; time--) {
                if (weightFound(piece, kind, time) > 0) {
                    return time;
                }
            }
            return NOT;
        }

        long greaterSum(Piece piece, int mark) {
            int bit = 1 << mark;
            long with = weigh(piece, piece.looked | bit, piece.there | bit);
            long without = weigh(piece, piece.looked | bit, piece.there & ~bit);
            return Math.max(with, without);
        }

        /** Fills ways for all sets of the free marks and answers the sum of all of them. */
        long fillWays(Piece piece, int looked, int there, int free) {
            piece.learn(laws, looked | free);
            Arrays.fill(ways, 0);
            long all = 0;
            for (int kind = 0; kind < KINDS; kind++) {
                for (int time = 0; time < TIMES && told.get(BELIEF, kind) != 0; time++) {
                    products[0] = weight(piece, kind, time, looked, there);
                    for (int mark = 0; mark < MARKS; mark++) {
                        splitProducts(mark, hasBit(free, mark), piece.numberAt(mark, kind, time));
                    }
                    all += addProducts(kind);
                }
            }
            return all;
        }

        /** Each product so far becomes one without the mark and one with it; one not free stays as it is. */
        private void splitProducts(int mark, boolean isFree, int number) {
            int bit = 1 << mark;
            for (int set = 0; set < bit && set + bit < SETS; set++) {
                products[set + bit] = isFree ? products[set] * number : 0;
                products[set] *= isFree ? HUNDREDTHS - number : 1;
            }
        }

        private long addProducts(int kind) {
            long all = 0;
            for (int set = 0; set < SETS; set++) {
                ways[kind * SETS + set] += products[set];
                all += products[set];
            }
            return all;
        }

        /** Leaves the kinds' sums of one set in sums and answers that of all. */
        long takeWay(int set) {
            long all = 0;
            for (int kind = 0; kind < KINDS && isSet(set); kind++) {
                sums[kind] = ways[kind * SETS + set];
                all += sums[kind];
            }
            return all;
        }

        /**
         * NAMED (NOT, if all is 0) of a set out of the ways of a greater one: number and 100 less it make 100, so both
         * what is above and what is below the line only grow by 100 for each mark beyond the set.
         */
        int namedBy(int set, long all) {
            Arrays.fill(merged, 0);
            for (int kind = 0; kind < KINDS; kind++) {
                for (int way = 0; way < SETS; way++) {
                    merged[kind * SETS + (way & set & ALL_MARKS)] += ways[kind * SETS + way];
                }
            }
            long best = 0;
            for (int way = 0; way < SETS; way++) {
                long greatest = 0;
                for (int kind = 0; kind < KINDS; kind++) {
                    greatest = Math.max(greatest, merged[kind * SETS + way]);
                }
                best += greatest;
            }
            return all == 0 ? NOT : (int) (best * 1000 / all);
        }
    }

    /** BELIEFS, VALUES, MINUTES and COSTS, and their changes. */
    private static final class Told {
        private static final int MOST_KEPT = 40;

        private final int[] now = {1, 1, 1, 1, 1, 1, 0, 0, 0, 0, 0, 0, 1, 1, 1, 1, 1, 1, 10, 10, 10, 10, 10, 10};
        private final int[] cells = new int[MOST_KEPT];
        private final int[] before = new int[MOST_KEPT];
        private final int[] after = new int[MOST_KEPT];
        int done = 0;
        private int kept = 0;

        int get(int what, int number) {
            int cell = what * KINDS + number;
            return cell >= 0 && cell < now.length ? now[cell] : 0;
        }

        int change(int what, int number, int v) {
            int was = get(what, number);
            if (was != v) {
                remember(what * KINDS + number, was, v);
                set(what * KINDS + number, v);
            }
            return was;
        }

        int sumOver(int what, int marks) {
            int sum = 0;
            for (int mark = 0; mark < MARKS; mark++) {
                sum += hasBit(marks, mark) ? get(what, mark) : 0;
            }
            return sum;
        }

        int stepBack() {
            if (done <= 0 || done > MOST_KEPT) {
                return STATE;
            }
            done--;
            set(cells[done], before[done]);
            return done;
        }

        int stepAgain() {
            if (done < 0 || done >= kept || done >= MOST_KEPT) {
                return STATE;
            }
            set(cells[done], after[done]);
            done++;
            return kept - done;
        }

        private void set(int cell, int v) {
            if (cell >= 0 && cell < now.length) {
                now[cell] = v;
            }
        }

        private void remember(int cell, int was, int v) {
            if (done >= MOST_KEPT) {
                dropOldest();
            }
            if (done >= 0 && done < MOST_KEPT) {
                cells[done] = cell;
                before[done] = was;
                after[done] = v;
                done++;
            }
            kept = done;
        }

        private void dropOldest() {
            System.arraycopy(cells, 1, cells, 0, MOST_KEPT - 1);
            System.arraycopy(before, 1, before, 0, MOST_KEPT - 1);
            System.arraycopy(after, 1, after, 0, MOST_KEPT - 1);
            done = MOST_KEPT - 1;
        }
    }

    /**
     * The marks' laws as code that runs on a stack: a number from 0 on stands for itself, a sign
     * below 0 for its letter. Reading the text anew for each kind and time would be far slower.
     */
    private static final class Laws {
        private static final int ROOM = 120, WITHOUT_TEXT = 50;

        private final int[] code = new int[MARKS * ROOM];
        private final int[] sizes = new int[MARKS];
        private final int[] stack = new int[ROOM];

        void set(int mark, int[] from, int size) {
            if (isMark(mark) && within(size, 0, ROOM) && size <= from.length) {
                System.arraycopy(from, 0, code, mark * ROOM, size);
                sizes[mark] = size;
            }
        }

        int worth(int mark, int kind, int time, int wood, int place) {
            if (mark < 0 || mark >= sizes.length || sizes[mark] == 0) {
                return WITHOUT_TEXT;
            }
            int end = Math.min(mark * ROOM + sizes[mark], code.length);
            int top = 0;
            boolean skips = false;
            for (int at = mark * ROOM; at < end; at++) {
                int sign = code[at];
                if (skips) {
                    skips = sign != -';';
                    continue;
                }
                int right = within(top, 1, stack.length) ? stack[top - 1] : 0;
                int left = within(top, 2, stack.length) ? stack[top - 2] : 0;
                int used = 2;
                int value = 0;
                switch (sign) {
                    case -';': return right;
                    case -'?':
                        skips = right == 0;
                        top = 0;
                        continue;
                    case -'y': used = 0; value = time; break;
                    case -'k': used = 0; value = kind; break;
                    case -'w': used = 0; value = wood; break;
                    case -'p': used = 0; value = place; break;
                    case -'!': used = 1; value = right == 0 ? 1 : 0; break;
                    case -Reader.NEGATE: used = 1; value = -right; break;
                    default:
                        used = sign >= 0 ? 0 : 2;
                        value = sign >= 0 ? sign : joined(-sign, left, right);
                }
                top = Math.max(0, top - used);
                if (top < stack.length) {
                    stack[top] = value;
                    top++;
                }
            }
            // Nothing is left where no line counts.
            return within(top, 1, stack.length) ? stack[top - 1] : 0;
        }

        private static int joined(int sign, int left, int right) {
            switch (sign) {
                case '+': return left + right;
                case '-': return left - right;
                case '*': return left * right;
                case '/': return right == 0 ? 0 : left / right;
                case '%': return right == 0 ? 0 : left % right;
                case '<': return left < right ? 1 : 0;
                case '=': return left == right ? 1 : 0;
                case '>': return left > right ? 1 : 0;
                case '&': return left != 0 && right != 0 ? 1 : 0;
                default: return left != 0 || right != 0 ? 1 : 0;
            }
        }
    }

    /** THE TAPE, and how a text on it is read into code. */
    private static final class Reader {
        /** Told apart from '-' between two: no text has this sign. */
        static final char NEGATE = '~';
        private static final int END = -1, MOST_OPEN = 6, LONGEST_NUMBER = 4, COMPARING = 2, CLOSEST = 4;

        private final int[] tape = new int[Laws.ROOM];
        int length = 0;
        final int[] code = new int[Laws.ROOM];
        int size = 0;
        private int at = 0;
        private int fault = -1;

        boolean take(int letter) {
            if (length < 0 || length >= tape.length) {
                return false;
            }
            tape[length] = letter;
            length++;
            return true;
        }

        /** The FAULT, or -1; then the code stands. */
        int read() {
            at = 0;
            size = 0;
            fault = -1;
            line();
            for (int turn = 0; turn < Laws.ROOM && fault < 0 && sign() == ';'; turn++) {
                emit(-sign());
                at++;
                line();
            }
            if (fault < 0 && sign() != END) {
                fault = at;
            }
            return fault;
        }

        private void line() {
            level(0, 0);
            if (fault < 0 && sign() == '?') {
                emit(-sign());
                at++;
                level(0, 0);
            }
        }

        /** One level of E, A, B, S, P (closeness 0 to 4); how deep it goes is bounded by MOST_OPEN. */
        private void level(int closeness, int open) {
            if (closeness > CLOSEST) {
                operand(open);
                return;
            }
            level(closeness + 1, open);
            int most = closeness == COMPARING ? 1 : Laws.ROOM;
            for (int turn = 0; turn < most && fault < 0 && closenessOf(sign()) == closeness; turn++) {
                int joining = sign();
                at++;
                level(closeness + 1, open);
                emit(-joining);
            }
        }

        private void operand(int open) {
            int first = sign();
            if (fault >= 0) {
                return;
            }
            if (isDigit(first)) {
                digits();
            } else if (first == 'y' || first == 'k' || first == 'w' || first == 'p') {
                emit(-first);
                at++;
            } else if (open < MOST_OPEN && (first == '(' || first == '!' || first == '-')) {
                at++;
                opened(first, open + 1);
            } else {
                fault = at;
            }
        }

        private void opened(int opener, int open) {
            if (opener != '(') {
                operand(open);
                emit(opener == '!' ? -'!' : -NEGATE);
                return;
            }
            level(0, open);
            if (fault < 0 && sign() != ')') {
                fault = at;
            }
            at++;
        }

        private void digits() {
            int value = 0;
            for (int turn = 0; turn < LONGEST_NUMBER && isDigit(sign()); turn++) {
                value = value * 10 + sign() - '0';
                at++;
            }
            emit(value);
        }

        private static boolean isDigit(int sign) {
            return sign >= '0' && sign <= '9';
        }

        private static int closenessOf(int sign) {
            switch (sign) {
                case '|': return 0;
                case '&': return 1;
                case '<': case '=': case '>': return COMPARING;
                case '+': case '-': return 3;
                case '*': case '/': case '%': return CLOSEST;
                default: return -1;
            }
        }

        private int sign() {
            return at >= 0 && at < length && at < tape.length ? tape[at] : END;
        }

        private void emit(int sign) {
            if (size >= 0 && size < code.length) {
                code[size] = sign;
                size++;
            }
        }
    }

    /** PAPERS: from when to when the chair was in which house. */
    private static final class Papers {
        private static final int MOST = 10;

        private final int[] from = new int[MOST];
        private final int[] to = new int[MOST];
        private final int[] houses = new int[MOST];
        int many = 0;

        int add(int first, int last, int where) {
            if (many < 0 || many >= MOST) {
                return FULL;
            }
            from[many] = first;
            to[many] = last;
            houses[many] = where;
            many++;
            return many - 1;
        }

        int firstClash() {
            for (int late = 0; late < many && late < MOST; late++) {
                for (int early = 0; early < late; early++) {
                    boolean meet = from[late] <= to[early] && from[early] <= to[late];
                    if (meet && houses[late] != houses[early]) {
                        return late;
                    }
                }
            }
            return NOT;
        }

        int gaps() {
            int seen = 0;
            int missing = 0;
            int sinceSeen = 0;
            for (int time = 0; time < TIMES; time++) {
                if (houseAt(time) == NOT) {
                    sinceSeen++;
                } else {
                    // What lies ahead of the first time of all is no gap.
                    missing += seen == 0 ? 0 : sinceSeen;
                    sinceSeen = 0;
                    seen++;
                }
            }
            return missing;
        }

        int houseAt(int time) {
            for (int i = 0; i < many && i < MOST; i++) {
                if (from[i] <= time && time <= to[i]) {
                    return houses[i];
                }
            }
            return NOT;
        }
    }

    /** BODIES, and their acts: which body runs is looked up in tables, kind by kind upward. */
    private static final class Bodies {
        private static final int MOST = 50, MOST_TRACED = 24, MOST_DEEP = 40, BODY_KINDS = 8, ACTS = 4;
        private static final int AGES = 0, JOINS = 1, SHOWS = 2, TELLS = 3;
        private static final int[] ABOVE = {-1, 0, 0, 2, 1, 3, 0, 4};
        // By kind: the bodies that ages, joins, shows, tells have in it; 0 where it has none.
        private static final int[] OWN = {
            1, 10, 11, 2,
            20, 0, 0, 0,
            0, 30, 0, 0,
            0, 41, 40, 0,
            0, 0, 50, 0,
            0, 0, 0, 60,
            70, 0, 0, 0,
            0, 80, 0, 81,
        };

        private final int[] kinds = new int[MOST];
        int many = 0;
        private final int[] ran = new int[MOST_TRACED];
        int runs = 0;

        static boolean isBodyKind(int kind) {
            return within(kind, 0, BODY_KINDS - 1);
        }

        static boolean isUnder(int kind, int top) {
            int at = kind;
            for (int turn = 0; turn < BODY_KINDS && isBodyKind(at); turn++) {
                if (at == top) {
                    return true;
                }
                at = ABOVE[at];
            }
            return false;
        }

        int add(int kind) {
            if (many < 0 || many >= MOST) {
                return FULL;
            }
            kinds[many] = kind;
            many++;
            return many - 1;
        }

        int kindOf(int number) {
            return within(number, 0, many - 1) && number < MOST ? kinds[number] : NOT;
        }

        int ranAt(int i) {
            return within(i, 0, runs - 1) && i < MOST_TRACED ? ran[i] : BAD;
        }

        int perform(int number, int deed, int x) {
            runs = 0;
            return within(deed, 0, ACTS - 1) ? run(number, kindOf(number), deed, x, 0) : 0;
        }

        private static int bodyIn(int kind, int deed) {
            int at = kind * ACTS + deed;
            return at >= 0 && at < OWN.length ? OWN[at] : 0;
        }

        private static int above(int kind) {
            return isBodyKind(kind) ? ABOVE[kind] : -1;
        }

        /** Runs the body that the kind from has, or the next kind above it that has one. */
        private int run(int n, int from, int deed, int x, int depth) {
            int owner = from;
            for (int turn = 0; turn < BODY_KINDS && owner > 0 && bodyIn(owner, deed) == 0; turn++) {
                owner = above(owner);
            }
            if (owner < 0 || depth > MOST_DEEP) {
                return 0;
            }
            int upper = above(owner);
            int own = kindOf(n);
            int deeper = depth + 1;
            int body = bodyIn(owner, deed);
            note(body);
            switch (body) {
                case 1: return x + n;
                case 2: return run(n, own, JOINS, x, deeper) - run(n, own, SHOWS, 1, deeper);
                case 10: return run(n, own, AGES, x, deeper) * 2;
                case 11: return x ^ n;
                case 20: return run(n, upper, AGES, x, deeper) + 3;
                case 30: return -run(n, upper, JOINS, x, deeper);
                case 40: return run(n, upper, SHOWS, x, deeper) * 3;
                case 41: return run(n, upper, JOINS, x + 1, deeper);
                case 50: return run(n, upper, SHOWS, x, deeper) - run(n, own, AGES, 2, deeper);
                case 60: return run(n, upper, TELLS, x, deeper) ^ 5;
                case 70: return run(n, upper, AGES, x, deeper) * 2;
                case 80: return run(n, upper, JOINS, x, deeper) + run(n, own, SHOWS, 2, deeper);
                case 81: return run(n, upper, TELLS, x, deeper) - 1;
                default: return 0;
            }
        }

        private void note(int body) {
            if (runs >= 0 && runs < MOST_TRACED) {
                ran[runs] = body;
            }
            runs++;
        }
    }

    /** SHELVES: each row has its own stretch of one array, so a new row makes no new object. */
    private static final class Shelves {
        static final int MANY = 6, LONGEST = 60;
        static final int EMPTY = -2, BODY = -1, BYTES = 0, BOOLEANS = 4;
        private static final int SHORTS = 1, INTS = 2;

        private final int[] sorts = {EMPTY, EMPTY, EMPTY, EMPTY, EMPTY, EMPTY};
        private final int[] held = new int[MANY];
        private final int[] lengths = new int[MANY];
        private final long[] cells = new long[MANY * LONGEST];

        int sortOn(int shelf) {
            return isShelf(shelf) ? sorts[shelf] : EMPTY;
        }

        int bodyOn(int shelf) {
            return isShelf(shelf) ? held[shelf] : BAD;
        }

        int lengthOn(int shelf) {
            return isShelf(shelf) ? lengths[shelf] : 0;
        }

        void hold(int shelf, int number) {
            if (isShelf(shelf)) {
                sorts[shelf] = number < 0 ? EMPTY : BODY;
                held[shelf] = number;
                lengths[shelf] = 0;
            }
        }

        void holdRow(int shelf, int sort, int n) {
            if (isShelf(shelf) && within(n, 0, LONGEST)) {
                sorts[shelf] = sort;
                lengths[shelf] = n;
                Arrays.fill(cells, shelf * LONGEST, (shelf + 1) * LONGEST, 0);
            }
        }

        /** Why there is no such element; 0 if there is one. */
        int refusal(int shelf, int i) {
            int sort = sortOn(shelf);
            if (sort == EMPTY) {
                return NOTHING_THERE;
            }
            if (sort == BODY) {
                return OTHER_KIND;
            }
            return within(i, 0, lengthOn(shelf) - 1) ? 0 : NO_PLACE;
        }

        long cell(int shelf, int i) {
            return isShelf(shelf) && within(i, 0, LONGEST - 1) ? cells[shelf * LONGEST + i] : 0;
        }

        void setCell(int shelf, int i, long v) {
            if (isShelf(shelf) && within(i, 0, LONGEST - 1)) {
                cells[shelf * LONGEST + i] = lowestBits(sorts[shelf], v);
            }
        }

        private static long lowestBits(int sort, long v) {
            switch (sort) {
                case BYTES: return (byte) v;
                case SHORTS: return (short) v;
                case INTS: return (int) v;
                case BOOLEANS: return v != 0 ? 1 : 0;
                default: return v;
            }
        }

        int copy(int shelf, int i, int other, int j, int n) {
            int sort = sortOn(shelf);
            int otherSort = sortOn(other);
            if (sort == EMPTY || otherSort == EMPTY) {
                return NOTHING_THERE;
            }
            if (sort == BODY || sort != otherSort) {
                return OTHER_KIND;
            }
            if (n < 0 || !reaches(shelf, i, n) || !reaches(other, j, n)) {
                return NO_PLACE;
            }
            System.arraycopy(cells, shelf * LONGEST + i, cells, other * LONGEST + j, n);
            return n;
        }

        private boolean reaches(int shelf, int i, int n) {
            return i >= 0 && i <= lengthOn(shelf) - n;
        }
    }
}
