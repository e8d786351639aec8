import java.math.BigInteger;
import java.util.ArrayList;
import java.util.Arrays;
import java.util.Collections;
import java.util.List;

/** The document once more, as slow and plain as can be: what ChairOld must answer. */
public final class PlainModel {
    private record Part(int wood, int place, int[] found) {
    }

    private record Paper(int from, int to, int house) {
    }

    private record Change(int what, int number, int before, int after) {
    }

    private record Row(int sort, long[] elements) {
    }

    private final List<Part> parts = new ArrayList<>();
    private final List<Paper> papers = new ArrayList<>();
    private final int[][] told = {{1, 1, 1, 1, 1, 1}, new int[6], {1, 1, 1, 1, 1, 1}, {10, 10, 10, 10, 10, 10}};
    private final String[] laws = new String[6];
    private String tape = "";
    private List<int[]> image = null;
    private final List<Change> undoable = new ArrayList<>();
    private final List<Change> redoable = new ArrayList<>();
    private final List<PlainActs.Part> bodies = new ArrayList<>();
    private List<Integer> trace = new ArrayList<>();
    private final Object[] shelves = new Object[6];

    private static boolean in(int v, int least, int most) {
        return least <= v && v <= most;
    }

    private boolean noPart(int p) {
        return !in(p, 0, parts.size() - 1);
    }

    public int part(int wp) {
        if (!in(wp, 0, 99)) {
            return -1;
        }
        if (parts.size() == 8) {
            return -3;
        }
        parts.add(new Part(wp / 10, wp % 10, new int[6]));
        return parts.size() - 1;
    }

    public int parts(int shelf, int i, int n) {
        if (!in(shelf, 0, 5) || !in(n, 1, 8)) {
            return -1;
        }
        Object o = shelves[shelf];
        if (o == null) {
            return 0;
        }
        if (!(o instanceof Row row) || row.sort() != 0) {
            return -12;
        }
        int came = 0;
        try {
            for (long at = i; came < n && parts.size() < 8; at += 2) {
                long w = row.elements()[Math.toIntExact(at)];
                long p = row.elements()[Math.toIntExact(at + 1)];
                if (w < 0 || w > 9 || p < 0 || p > 9) {
                    break;
                }
                parts.add(new Part((int) w, (int) p, new int[6]));
                came++;
            }
        } catch (ArrayIndexOutOfBoundsException | ArithmeticException e) {
            return came;
        }
        return came;
    }

    public int mend(int number, int what, int v) {
        if (!in(number, 0, 5) || !in(what, 0, 3)) {
            return -1;
        }
        if (v < (what == 2 ? 1 : 0) || v > (what % 2 == 0 ? 9 : 99)) {
            return -1;
        }
        int was = told[what][number];
        if (was != v) {
            told[what][number] = v;
            redoable.clear();
            undoable.add(new Change(what, number, was, v));
            if (undoable.size() > 40) {
                undoable.remove(0);
            }
        }
        return was;
    }

    public int find(int pm, int v) {
        if (pm < 0 || noPart(pm / 10) || pm % 10 > 5 || !in(v, 0, 2)) {
            return -1;
        }
        int[] found = parts.get(pm / 10).found();
        int was = found[pm % 10];
        found[pm % 10] = v;
        return was;
    }

    public int of(int number, int what) {
        if (what == 20 || what == 21 || what == 30 || what == 31) {
            return in(number, 0, 5) ? told[what / 10 * 2 - 4 + what % 10][number] : -1;
        }
        if (noPart(number)) {
            return -1;
        }
        Part p = parts.get(number);
        if (what == 0 || what == 1) {
            return what == 0 ? p.wood() : p.place();
        }
        return in(what, 10, 15) ? p.found()[what - 10] : -1;
    }

    public int feed(int letter) {
        if (!in(letter, 0, 255)) {
            return -1;
        }
        if (tape.length() == 120) {
            return -3;
        }
        tape += (char) letter;
        return tape.length();
    }

    public int law(int mark) {
        if (!in(mark, 0, 5)) {
            return -1;
        }
        String text = tape;
        tape = "";
        int fault = PlainLaw.fault(text);
        if (fault >= 0) {
            return -100 - fault;
        }
        laws[mark] = text;
        return 1;
    }

    private int num(Part p, int mark, int kind, int time) {
        return PlainLaw.hundredths(laws[mark], time, kind, p.wood(), p.place());
    }

    public int number(int pm, int kt) {
        if (pm < 0 || kt < 0 || noPart(pm / 10) || pm % 10 > 5 || kt / 100 > 5 || kt % 100 > 29) {
            return -1;
        }
        return num(parts.get(pm / 10), pm % 10, kt / 100, kt % 100);
    }

    private BigInteger weight(Part p, int kind, int time, int[] found) {
        BigInteger w = BigInteger.valueOf(told[0][kind]);
        for (int m = 0; m < 6; m++) {
            if (found[m] != 0 && w.signum() != 0) {
                int n = num(p, m, kind, time);
                w = w.multiply(BigInteger.valueOf(found[m] == 1 ? n : 100 - n));
            }
        }
        return w;
    }

    private BigInteger[] sums(Part p, int[] found) {
        BigInteger[] sums = new BigInteger[6];
        for (int k = 0; k < 6; k++) {
            sums[k] = BigInteger.ZERO;
            for (int t = 0; t < 30; t++) {
                sums[k] = sums[k].add(weight(p, k, t, found));
            }
        }
        return sums;
    }

    private static BigInteger all(BigInteger[] sums) {
        return Arrays.stream(sums).reduce(BigInteger.ZERO, BigInteger::add);
    }

    private static BigInteger greatest(BigInteger[] sums) {
        return Collections.max(Arrays.asList(sums));
    }

    private int percent(Part p, int kind, int[] found) {
        BigInteger[] sums = sums(p, found);
        BigInteger all = all(sums);
        return all.signum() == 0 ? 0 : sums[kind].multiply(BigInteger.valueOf(100)).divide(all).intValue();
    }

    private int likeliest(Part p, int[] found) {
        BigInteger[] sums = sums(p, found);
        return all(sums).signum() == 0 ? -2 : Arrays.asList(sums).indexOf(greatest(sums));
    }

    public long likely(int pk, int part) {
        if (pk < 0 || noPart(pk / 10) || pk % 10 > 5 || !in(part, 0, 1)) {
            return Long.MIN_VALUE;
        }
        Part p = parts.get(pk / 10);
        BigInteger[] sums = sums(p, p.found());
        BigInteger all = all(sums);
        BigInteger above = sums[pk % 10];
        if (all.signum() == 0) {
            return part;
        }
        BigInteger common = all.gcd(above);
        return (part == 0 ? above : all).divide(common).longValueExact();
    }

    public int percent(int pk) {
        if (pk < 0 || noPart(pk / 10) || pk % 10 > 5) {
            return -1;
        }
        Part p = parts.get(pk / 10);
        return percent(p, pk % 10, p.found());
    }

    public int likeliest(int part) {
        return noPart(part) ? -1 : likeliest(parts.get(part), parts.get(part).found());
    }

    private int when(Part p, int kind) {
        int best = -2;
        BigInteger most = BigInteger.ZERO;
        for (int t = 29; t >= 0; t--) {
            BigInteger w = weight(p, kind, t, p.found());
            if (w.signum() > 0 && w.compareTo(most) >= 0) {
                best = t;
                most = w;
            }
        }
        return best;
    }

    public int when(int pk, int what) {
        if (pk < 0 || noPart(pk / 10) || pk % 10 > 5 || !in(what, 0, 2)) {
            return -1;
        }
        Part p = parts.get(pk / 10);
        if (what == 0) {
            return when(p, pk % 10);
        }
        List<Integer> span = new ArrayList<>();
        for (int t = 0; t < 30; t++) {
            if (weight(p, pk % 10, t, p.found()).signum() > 0) {
                span.add(t);
            }
        }
        return span.isEmpty() ? -2 : what == 1 ? span.get(0) : span.get(span.size() - 1);
    }

    public int whole(int what) {
        if (!in(what, 0, 1)) {
            return -1;
        }
        int[] so = parts.stream().mapToInt(p -> percent(p, 0, p.found())).toArray();
        if (what == 0) {
            return Arrays.stream(so).reduce(100, (a, b) -> a * b / 100);
        }
        BigInteger sum = BigInteger.ZERO;
        for (int not = 0; not < 1 << so.length; not++) {
            if (Integer.bitCount(not) >= 2) {
                BigInteger product = BigInteger.ONE;
                for (int i = 0; i < so.length; i++) {
                    product = product.multiply(BigInteger.valueOf((not >> i & 1) == 1 ? 100 - so[i] : so[i]));
                }
                sum = sum.add(product);
            }
        }
        return sum.multiply(BigInteger.valueOf(10000)).divide(BigInteger.valueOf(100).pow(so.length)).intValueExact();
    }

    public int odd() {
        List<Integer> whens = new ArrayList<>();
        for (Part p : parts) {
            if (likeliest(p, p.found()) == 0) {
                whens.add(when(p, 0));
            }
        }
        if (whens.isEmpty()) {
            return 0;
        }
        Collections.sort(whens);
        int middle = whens.get((whens.size() - 1) / 2);
        int bits = 0;
        for (int i = 0; i < parts.size(); i++) {
            Part p = parts.get(i);
            if (likeliest(p, p.found()) == 0 && Math.abs(when(p, 0) - middle) > 2) {
                bits |= 1 << i;
            }
        }
        return bits;
    }

    private static int[] with(int[] found, int mark, int v) {
        int[] other = found.clone();
        other[mark] = v;
        return other;
    }

    public int next(int part) {
        if (noPart(part)) {
            return -1;
        }
        Part p = parts.get(part);
        int best = -2;
        BigInteger least = null;
        for (int m = 0; m < 6; m++) {
            if (p.found()[m] == 0) {
                BigInteger there = all(sums(p, with(p.found(), m, 1)));
                BigInteger not = all(sums(p, with(p.found(), m, 2)));
                BigInteger left = there.max(not).multiply(BigInteger.valueOf(told[2][m]));
                if (least == null || left.compareTo(least) < 0) {
                    least = left;
                    best = m;
                }
            }
        }
        return best;
    }

    private BigInteger waysSum(Part p, int[] found, int set, int mark) {
        if (mark == 6) {
            return greatest(sums(p, found));
        }
        if ((set >> mark & 1) == 0 || p.found()[mark] != 0) {
            return waysSum(p, found, set, mark + 1);
        }
        return waysSum(p, with(found, mark, 1), set, mark + 1).add(waysSum(p, with(found, mark, 2), set, mark + 1));
    }

    private int named(Part p, int set) {
        BigInteger all = all(sums(p, p.found()));
        if (all.signum() == 0) {
            return -2;
        }
        for (int m = 0; m < 6; m++) {
            if ((set >> m & 1) == 1 && p.found()[m] == 0) {
                all = all.multiply(BigInteger.valueOf(100));
            }
        }
        return waysSum(p, p.found(), set, 0).multiply(BigInteger.valueOf(1000)).divide(all).intValueExact();
    }

    public int named(int part, int marks) {
        return noPart(part) || !in(marks, 0, 63) ? -1 : named(parts.get(part), marks);
    }

    private int sumTold(int what, int set) {
        int sum = 0;
        for (int m = 0; m < 6; m++) {
            sum += (set >> m & 1) * told[what][m];
        }
        return sum;
    }

    public int plan(int part, int m) {
        if (noPart(part) || !in(m, 0, 54)) {
            return -1;
        }
        Part p = parts.get(part);
        int looked = 0;
        for (int i = 0; i < 6; i++) {
            looked |= p.found()[i] != 0 ? 1 << i : 0;
        }
        if (named(p, 0) == -2) {
            return -2;
        }
        int best = -1;
        int bestNamed = 0;
        for (int set = 0; set < 64; set++) {
            if ((set & looked) != 0 || sumTold(2, set) > m) {
                continue;
            }
            int n = named(p, set);
            if (best < 0 || n > bestNamed || n == bestNamed && sumTold(2, set) < sumTold(2, best)) {
                best = set;
                bestNamed = n;
            }
        }
        return best;
    }

    private static int[] made(int set) {
        int[] found = new int[6];
        for (int m = 0; m < 6; m++) {
            found[m] = (set >> m & 1) == 1 ? 1 : 2;
        }
        return found;
    }

    public int believed(int part, int marks) {
        return noPart(part) || !in(marks, 0, 63) ? -1 : percent(parts.get(part), 0, made(marks));
    }

    public int cheapest(int part, int b, int what) {
        if (noPart(part) || !in(b, 0, 100) || !in(what, 0, 1)) {
            return -1;
        }
        int best = -2;
        for (int set = 63; set >= 0; set--) {
            if (percent(parts.get(part), 0, made(set)) >= b && (best < 0 || sumTold(3, set) <= sumTold(3, best))) {
                best = set;
            }
        }
        return best < 0 || what == 0 ? best : sumTold(3, best);
    }

    public int spoils(int part, int marks) {
        if (noPart(part) || !in(marks, 0, 63)) {
            return -1;
        }
        int worst = -2;
        int least = 101;
        for (int m = 0; m < 6; m++) {
            if ((marks >> m & 1) == 1) {
                int without = percent(parts.get(part), 0, made(marks - (1 << m)));
                if (without < least) {
                    least = without;
                    worst = m;
                }
            }
        }
        return worst;
    }

    public int price(int part) {
        if (part == -1) {
            int sum = 0;
            for (int i = 0; i < parts.size(); i++) {
                sum += price(i);
            }
            return sum;
        }
        if (noPart(part)) {
            return -1;
        }
        Part p = parts.get(part);
        int sum = 0;
        for (int k = 0; k < 6; k++) {
            sum += told[1][k] * percent(p, k, p.found());
        }
        return sum / 100;
    }

    public int paper(int ft, int house) {
        if (ft < 0 || ft / 100 > 29 || ft % 100 > 29 || ft / 100 > ft % 100 || !in(house, 0, 9)) {
            return -1;
        }
        if (papers.size() == 10) {
            return -3;
        }
        papers.add(new Paper(ft / 100, ft % 100, house));
        return papers.size() - 1;
    }

    public int papers(int what) {
        if (what == 0) {
            for (int i = 0; i < papers.size(); i++) {
                for (int t = papers.get(i).from(); t <= papers.get(i).to(); t++) {
                    for (Paper early : papers.subList(0, i)) {
                        if (early.from() <= t && t <= early.to() && early.house() != papers.get(i).house()) {
                            return i;
                        }
                    }
                }
            }
            return -2;
        }
        if (what != 1) {
            return -1;
        }
        int least = papers.stream().mapToInt(Paper::from).min().orElse(0);
        int most = papers.stream().mapToInt(Paper::to).max().orElse(-1);
        int gaps = 0;
        for (int t = least; t <= most; t++) {
            gaps += house(t) == -2 ? 1 : 0;
        }
        return gaps;
    }

    public int house(int time) {
        if (!in(time, 0, 29)) {
            return -1;
        }
        for (Paper p : papers) {
            if (p.from() <= time && time <= p.to()) {
                return p.house();
            }
        }
        return -2;
    }

    public int drawn(int seed, int n, int pkt) {
        if (pkt < 0 || noPart(pkt / 1000) || pkt / 100 % 10 > 5 || pkt % 100 > 29 || !in(n, 1, 30)) {
            return -1;
        }
        Part p = parts.get(pkt / 1000);
        int z = seed;
        int hits = 0;
        for (int i = 0; i < n; i++) {
            int[] found = new int[6];
            for (int m = 0; m < 6; m++) {
                z = z * 1103515245 + 12345;
                found[m] = (z >>> 8) % 100 < num(p, m, pkt / 100 % 10, pkt % 100) ? 1 : 2;
            }
            hits += likeliest(p, found) == pkt / 100 % 10 ? 1 : 0;
        }
        return hits;
    }

    public int image() {
        image = new ArrayList<>();
        for (Part p : parts) {
            image.add(p.found().clone());
        }
        return parts.size();
    }

    public int back() {
        if (image == null) {
            return -5;
        }
        for (int i = 0; i < parts.size(); i++) {
            int[] from = i < image.size() ? image.get(i) : new int[6];
            System.arraycopy(from, 0, parts.get(i).found(), 0, 6);
        }
        return parts.size();
    }

    public int undo() {
        if (undoable.isEmpty()) {
            return -5;
        }
        Change c = undoable.remove(undoable.size() - 1);
        told[c.what()][c.number()] = c.before();
        redoable.add(c);
        return undoable.size();
    }

    public int redo() {
        if (redoable.isEmpty()) {
            return -5;
        }
        Change c = redoable.remove(redoable.size() - 1);
        told[c.what()][c.number()] = c.after();
        undoable.add(c);
        return redoable.size();
    }

    public int body(int kind) {
        if (!in(kind, 0, 7)) {
            return -1;
        }
        if (bodies.size() == 50) {
            return -3;
        }
        bodies.add(PlainActs.make(kind, bodies.size()));
        return bodies.size() - 1;
    }

    public int act(int body, int act, int x) {
        PlainActs.trace.clear();
        int answer = 0;
        if (in(body, 0, bodies.size() - 1) && in(act, 0, 3)) {
            PlainActs.Part b = bodies.get(body);
            answer = act == 0 ? b.ages(x) : act == 1 ? b.joins(x) : act == 2 ? b.shows(x) : b.tells(x);
        }
        trace = new ArrayList<>(PlainActs.trace);
        return answer;
    }

    public int trace(int i) {
        return in(i, 0, Math.min(24, trace.size()) - 1) ? trace.get(i) : -1;
    }

    public int keep(int shelf, int body) {
        if (!in(shelf, 0, 5) || !in(body, -1, bodies.size() - 1)) {
            return -1;
        }
        shelves[shelf] = body == -1 ? null : bodies.get(body);
        return 1;
    }

    public int row(int shelf, int sort, int n) {
        if (!in(shelf, 0, 5) || !in(sort, 0, 4) || n > 60) {
            return -1;
        }
        if (n < 0) {
            return -14;
        }
        shelves[shelf] = new Row(sort, new long[n]);
        return 1;
    }

    public int put(int shelf, int i, long v) {
        if (!in(shelf, 0, 5)) {
            return -1;
        }
        if (shelves[shelf] == null) {
            return -11;
        }
        if (!(shelves[shelf] instanceof Row row)) {
            return -12;
        }
        if (!in(i, 0, row.elements().length - 1)) {
            return -13;
        }
        row.elements()[i] = switch (row.sort()) {
            case 0 -> (byte) v;
            case 1 -> (short) v;
            case 2 -> (int) v;
            case 3 -> v;
            default -> v == 0 ? 0 : 1;
        };
        return 1;
    }

    public long element(int shelf, int i) {
        boolean there = in(shelf, 0, 5) && shelves[shelf] instanceof Row row && in(i, 0, row.elements().length - 1);
        return there ? ((Row) shelves[shelf]).elements()[i] : Long.MIN_VALUE;
    }

    public int shift(int shelf, int i, int other, int j, int n) {
        if (!in(shelf, 0, 5) || !in(other, 0, 5)) {
            return -1;
        }
        if (shelves[shelf] == null || shelves[other] == null) {
            return -11;
        }
        if (!(shelves[shelf] instanceof Row a) || !(shelves[other] instanceof Row b) || a.sort() != b.sort()) {
            return -12;
        }
        try {
            System.arraycopy(a.elements(), i, b.elements(), j, n);
        } catch (IndexOutOfBoundsException e) {
            return -13;
        }
        return n;
    }

    public int taken(int shelf, int k) {
        if (!in(shelf, 0, 5) || !in(k, 0, 7)) {
            return -1;
        }
        if (shelves[shelf] == null) {
            return -11;
        }
        return shelves[shelf] instanceof PlainActs.Part p && PlainActs.isA(p, k) ? p.kind : -12;
    }

    public int count(int what) {
        return switch (what) {
            case 0 -> parts.size();
            case 1 -> papers.size();
            case 2 -> (int) parts.stream().flatMapToInt(p -> Arrays.stream(p.found())).filter(f -> f != 0).count();
            case 3 -> tape.length();
            case 4 -> undoable.size();
            case 5 -> bodies.size();
            case 6 -> trace.size();
            default -> -1;
        };
    }
}
