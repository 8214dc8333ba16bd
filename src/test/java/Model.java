import java.math.BigInteger;
import java.util.ArrayList;
import java.util.Arrays;
import java.util.Collections;
import java.util.HashMap;
import java.util.List;
import java.util.Map;
import java.util.TreeMap;
import java.util.regex.Matcher;
import java.util.regex.Pattern;

/**
 * The document once more, told by the Java library in its most wasteful form: exact fractions, the max-min formula,
 * all assignments of marks. LatticeGrader is compared with it call by call.
 */
final class Model {
    static final long REFUSED = 4000000000000000000L;

    /** An exact fraction. */
    static final class Ratio implements Comparable<Ratio> {
        final BigInteger above;
        final BigInteger below;

        Ratio(BigInteger a, BigInteger b) {
            BigInteger g = a.gcd(b);
            if (b.signum() < 0) {
                g = g.negate();
            }
            above = a.divide(g);
            below = b.divide(g);
        }

        static Ratio of(long a, long b) {
            return new Ratio(BigInteger.valueOf(a), BigInteger.valueOf(b));
        }

        static Ratio of(long a) {
            return of(a, 1);
        }

        Ratio plus(Ratio o) {
            return new Ratio(above.multiply(o.below).add(o.above.multiply(below)), below.multiply(o.below));
        }

        Ratio minus(Ratio o) {
            return plus(new Ratio(o.above.negate(), o.below));
        }

        Ratio times(Ratio o) {
            return new Ratio(above.multiply(o.above), below.multiply(o.below));
        }

        Ratio size() {
            return new Ratio(above.abs(), below);
        }

        @Override
        public int compareTo(Ratio o) {
            return above.multiply(o.below).compareTo(o.above.multiply(below));
        }

        @Override
        public boolean equals(Object o) {
            return o instanceof Ratio r && compareTo(r) == 0;
        }

        @Override
        public int hashCode() {
            return above.hashCode() * 31 + below.hashCode();
        }

        long part(int part) {
            return (part == 0 ? above : below).longValueExact();
        }

        @Override
        public String toString() {
            return below.equals(BigInteger.ONE) ? above.toString() : above + "/" + below;
        }
    }

    static final class Paper {
        int raw;
        int kind;
        int figure;
        int heavy = 1;
        int place;

        Paper copy() {
            Paper p = new Paper();
            p.raw = raw;
            p.kind = kind;
            p.figure = figure;
            p.heavy = heavy;
            p.place = place;
            return p;
        }

        int mark() {
            int late = raw - 3 * figure < 0 ? 0 : raw - 3 * figure;
            return switch (kind) {
                case 1 -> raw + figure;
                case 2 -> late;
                case 3 -> late > 50 ? 50 : late;
                case 4 -> raw >= 70 ? raw + figure + 10 : raw + figure;
                default -> raw;
            };
        }

        int weight() {
            int half = heavy / 2 + heavy % 2;
            return switch (kind) {
                case 2 -> half;
                case 3 -> half + 1;
                case 5 -> heavy + heavy;
                default -> heavy;
            };
        }

        @Override
        public String toString() {
            return raw + "/" + kind + "/" + figure + "/" + heavy + "/" + place;
        }
    }

    static final class State {
        List<Paper> papers = new ArrayList<>();
        List<List<Integer>> rules = new ArrayList<>();
        List<Integer> limits = new ArrayList<>();
        int ties;

        State copy() {
            State s = new State();
            for (Paper p : papers) {
                s.papers.add(p.copy());
            }
            s.rules.addAll(rules);
            s.limits.addAll(limits);
            s.ties = ties;
            return s;
        }

        boolean has(int p) {
            return p >= 0 && p < papers.size();
        }

        boolean comes(List<List<Integer>> by, int from, int to) {
            for (List<Integer> r : by) {
                if (r.get(0) == from && (r.get(1) == to || comes(by, r.get(1), to))) {
                    return true;
                }
            }
            return false;
        }

        boolean under(int one, int other) {
            return comes(rules, one, other);
        }

        int grade(Ratio v) {
            int g = 0;
            for (int l : limits) {
                if (Ratio.of(l).compareTo(v) <= 0) {
                    g++;
                }
            }
            return g;
        }

        int mark(int p) {
            return papers.get(p).mark();
        }

        // Each answers what the call answers; below 0 a refusal.
        int paper(int raw) {
            if (raw < 0) return -4;
            if (raw > 99 || papers.size() == 7) return -6;
            Paper p = new Paper();
            p.raw = raw;
            p.place = papers.size();
            papers.add(p);
            return papers.size() - 1;
        }

        int kind(int p, int kind, int figure) {
            if (!has(p)) return -1;
            if (kind < 0 || kind > 5) return -2;
            if (figure < 0) return -4;
            if (figure > 9) return -6;
            Paper q = papers.get(p);
            int was = q.kind * 10 + q.figure;
            q.kind = kind;
            q.figure = figure;
            return was;
        }

        int raw(int p, int v) {
            if (!has(p)) return -1;
            if (v < 0) return -4;
            if (v > 99) return -6;
            int was = papers.get(p).raw;
            papers.get(p).raw = v;
            return was;
        }

        int heavy(int p, int v) {
            if (!has(p)) return -1;
            if (v < 1) return -4;
            if (v > 9) return -6;
            int was = papers.get(p).heavy;
            papers.get(p).heavy = v;
            return was;
        }

        int place(int p, int v) {
            if (!has(p)) return -1;
            if (v < 0) return -4;
            if (v > 9) return -6;
            int was = papers.get(p).place;
            papers.get(p).place = v;
            return was;
        }

        int rule(int l, int u) {
            if (!has(l) || !has(u) || l == u) return -1;
            if (rules.contains(List.of(l, u)) || under(u, l)) return -3;
            if (rules.size() == 12) return -6;
            rules.add(List.of(l, u));
            return rules.size() - 1;
        }

        int free(int r) {
            if (r < 0 || r >= rules.size()) return -1;
            rules.remove(r);
            return rules.size();
        }

        int limit(int v) {
            if (v < 1) return -4;
            if (v > 99 || limits.size() == 5) return -6;
            if (!limits.isEmpty() && limits.get(limits.size() - 1) >= v) return -3;
            limits.add(v);
            return limits.size();
        }

        int ties(int t) {
            if (t < 0 || t > 2) return -2;
            int was = ties;
            ties = t;
            return was;
        }

        // ---- numbers
        Ratio number(int loss, List<Integer> some) {
            return loss == 0 ? mean(some) : Ratio.of(middle(some));
        }

        Ratio mean(List<Integer> some) {
            long sum = 0;
            long weight = 0;
            for (int p : some) {
                sum += (long) mark(p) * papers.get(p).weight();
                weight += papers.get(p).weight();
            }
            return Ratio.of(sum, weight);
        }

        int middle(List<Integer> some) {
            List<Integer> laid = new ArrayList<>();
            for (int p : some) {
                laid.addAll(Collections.nCopies(papers.get(p).weight(), mark(p)));
            }
            Collections.sort(laid);
            return laid.get((laid.size() + 1) / 2 - 1);
        }

        // ---- the line
        record Standing(List<List<Integer>> blocks, int merges, Ratio[] values) { }

        Standing line(int loss) {
            List<List<Integer>> blocks = new ArrayList<>();
            List<Integer> all = new ArrayList<>();
            for (int p = 0; p < papers.size(); p++) {
                all.add(p);
            }
            TreeMap<Integer, List<Integer>> byPlace = new TreeMap<>();
            for (int p : all) {
                byPlace.computeIfAbsent(papers.get(p).place, k -> new ArrayList<>()).add(p);
            }
            for (List<Integer> same : byPlace.values()) {
                if (ties == 0) {
                    List<Integer> sorted = new ArrayList<>(same);
                    sorted.sort((a, b) -> mark(a) != mark(b) ? mark(a) - mark(b) : a - b);
                    for (int p : sorted) {
                        blocks.add(new ArrayList<>(List.of(p)));
                    }
                } else {
                    blocks.add(new ArrayList<>(same));
                }
            }
            int merges = 0;
            boolean again = true;
            while (again) {
                again = false;
                for (int i = 0; i + 1 < blocks.size(); i++) {
                    if (number(loss, blocks.get(i)).compareTo(number(loss, blocks.get(i + 1))) >= 0) {
                        blocks.get(i).addAll(blocks.remove(i + 1));
                        merges++;
                        again = true;
                        break;
                    }
                }
            }
            Ratio[] values = new Ratio[papers.size()];
            for (List<Integer> b : blocks) {
                for (int p : b) {
                    values[p] = number(loss, b);
                    if (ties == 2) {
                        Ratio ofPlace = number(loss, byPlace.get(papers.get(p).place));
                        values[p] = Ratio.of(mark(p)).plus(values[p]).minus(ofPlace);
                    }
                }
            }
            return new Standing(blocks, merges, values);
        }

        Ratio change(int loss, Ratio[] values) {
            Ratio sum = Ratio.of(0);
            for (int p = 0; p < papers.size(); p++) {
                Ratio d = values[p].minus(Ratio.of(mark(p))).size();
                Ratio w = Ratio.of(papers.get(p).weight());
                if (loss == 0) {
                    sum = sum.plus(w.times(d).times(d));
                } else if (loss == 1) {
                    sum = sum.plus(w.times(d));
                } else if (d.compareTo(sum) > 0) {
                    sum = d;
                }
            }
            return sum;
        }

        // ---- by rules
        private static final Map<String, Ratio[]> KNOWN = new HashMap<>();

        Ratio[] values(int loss, List<List<Integer>> by) {
            StringBuilder key = new StringBuilder().append(loss).append(by);
            for (int p = 0; p < papers.size(); p++) {
                key.append(' ').append(mark(p)).append('/').append(papers.get(p).weight());
            }
            Ratio[] known = KNOWN.get(key.toString());
            if (known == null) {
                known = loss == 0 ? squares(by) : loss == 1 ? absolutes(by) : worsts(by);
                if (KNOWN.size() > 100000) {
                    KNOWN.clear();
                }
                KNOWN.put(key.toString(), known);
            }
            return known;
        }

        /** VALUE of p: over all upper sets with p the most of, over all lower sets with p, the least mean of both. */
        Ratio[] squares(List<List<Integer>> by) {
            int n = papers.size();
            List<Integer> uppers = new ArrayList<>();
            List<Integer> lowers = new ArrayList<>();
            for (int set = 0; set < 1 << n; set++) {
                boolean upper = true;
                boolean lower = true;
                for (List<Integer> r : by) {
                    boolean l = (set >> r.get(0) & 1) == 1;
                    boolean u = (set >> r.get(1) & 1) == 1;
                    upper &= !l || u;
                    lower &= !u || l;
                }
                if (upper) uppers.add(set);
                if (lower) lowers.add(set);
            }
            long[] sums = new long[1 << n];
            long[] weights = new long[1 << n];
            for (int set = 0; set < 1 << n; set++) {
                for (int p = 0; p < n; p++) {
                    if ((set >> p & 1) == 1) {
                        sums[set] += (long) mark(p) * papers.get(p).weight();
                        weights[set] += papers.get(p).weight();
                    }
                }
            }
            Ratio[] values = new Ratio[n];
            for (int p = 0; p < n; p++) {
                int best = 0;
                for (int u : uppers) {
                    if ((u >> p & 1) == 0) continue;
                    int least = 0;
                    for (int l : lowers) {
                        if ((l >> p & 1) == 0) continue;
                        int both = l & u;
                        if (least == 0 || sums[both] * weights[least] < sums[least] * weights[both]) least = both;
                    }
                    if (best == 0 || sums[least] * weights[best] > sums[best] * weights[least]) best = least;
                }
                values[p] = Ratio.of(sums[best], weights[best]);
            }
            return values;
        }

        private int bestCost;
        private int[] leastOfBest;

        /** All ways to give each paper one of the marks. */
        Ratio[] absolutes(List<List<Integer>> by) {
            int n = papers.size();
            int[] marks = new int[n];
            for (int p = 0; p < n; p++) {
                marks[p] = mark(p);
            }
            bestCost = Integer.MAX_VALUE;
            leastOfBest = null;
            int[] choices = Arrays.stream(marks).distinct().sorted().toArray();
            assign(0, 0, new int[n], marks, choices, by);
            Ratio[] values = new Ratio[n];
            for (int p = 0; p < n; p++) {
                values[p] = Ratio.of(leastOfBest[p]);
            }
            return values;
        }

        private void assign(int p, int cost, int[] given, int[] marks, int[] choices, List<List<Integer>> by) {
            if (cost > bestCost) return;
            if (p == given.length) {
                if (cost < bestCost) {
                    leastOfBest = given.clone();
                } else {
                    for (int i = 0; i < given.length; i++) {
                        leastOfBest[i] = Math.min(leastOfBest[i], given[i]);
                    }
                }
                bestCost = cost;
                return;
            }
            for (int c : choices) {
                given[p] = c;
                boolean fine = true;
                for (List<Integer> r : by) {
                    if (r.get(0) <= p && r.get(1) <= p && (r.get(0) == p || r.get(1) == p)) {
                        fine &= given[r.get(0)] <= given[r.get(1)];
                    }
                }
                if (fine) {
                    assign(p + 1, cost + papers.get(p).weight() * Math.abs(c - marks[p]), given, marks, choices, by);
                }
            }
        }

        Ratio[] worsts(List<List<Integer>> by) {
            Ratio[] values = new Ratio[papers.size()];
            for (int p = 0; p < values.length; p++) {
                int most = mark(p);
                int least = mark(p);
                for (int q = 0; q < values.length; q++) {
                    if (comes(by, q, p)) most = Math.max(most, mark(q));
                    if (comes(by, p, q)) least = Math.min(least, mark(q));
                }
                values[p] = Ratio.of(most + least, 2);
            }
            return values;
        }

        int pool(Ratio[] values, int paper) {
            int pool = 1 << paper;
            boolean grown = true;
            while (grown) {
                grown = false;
                for (List<Integer> r : rules) {
                    int l = r.get(0);
                    int u = r.get(1);
                    boolean hasL = (pool >> l & 1) == 1;
                    boolean hasU = (pool >> u & 1) == 1;
                    if (values[l].equals(values[u]) && hasL != hasU) {
                        pool |= 1 << l | 1 << u;
                        grown = true;
                    }
                }
            }
            return pool;
        }

        List<int[]> pairs() {
            List<int[]> all = new ArrayList<>();
            for (int p = 0; p < papers.size(); p++) {
                for (int q = 0; q < papers.size(); q++) {
                    if (p != q && under(p, q) && mark(p) > mark(q)) {
                        all.add(new int[] {p, q});
                    }
                }
            }
            return all;
        }
    }

    State now = new State();
    State kept;
    String text = "";
    List<Integer> row = new ArrayList<>();
    long[][] shelves = new long[4][];
    long[] refusals = new long[7];

    private int answer(int a) {
        if (a <= -1 && a >= -6) {
            refusals[-a]++;
        }
        return a;
    }

    private long longRefusal(int a) {
        return REFUSED - answer(a);
    }

    int letter(int c) {
        if (c < 0) return answer(-4);
        if (c > 255 || text.length() == 120) return answer(-6);
        text += (char) c;
        return text.length();
    }

    private static final String N = " [0-9][0-9]?";
    private static final String[] FORMS = {
        "paper" + N, "kind" + N + N + N, "heavy" + N + N, "place" + N + N, "rule" + N + N, "free" + N, "limit" + N,
        "ties" + N
    };
    private static final Pattern STATEMENT = Pattern.compile("(" + String.join("|", FORMS) + ");");
    private static final Pattern ALL = Pattern.compile("((" + String.join("|", FORMS) + ");)+");

    /** Whether STATEMENTS can begin so. */
    static boolean canGoOn(String begun) {
        Matcher m = ALL.matcher(begun);
        return m.matches() || m.hitEnd();
    }

    int tells() {
        String t = text;
        text = "";
        if (!ALL.matcher(t).matches()) {
            int place = 0;
            while (place < t.length() && canGoOn(t.substring(0, place + 1))) {
                place++;
            }
            return -1000 - place;
        }
        State before = now.copy();
        Matcher m = STATEMENT.matcher(t);
        int many = 0;
        while (m.find()) {
            String[] parts = m.group(1).split(" ");
            int[] v = new int[3];
            for (int i = 1; i < parts.length; i++) {
                v[i - 1] = Integer.parseInt(parts[i]);
            }
            int a = switch (parts[0]) {
                case "paper" -> now.paper(v[0]);
                case "kind" -> now.kind(v[0], v[1], v[2]);
                case "heavy" -> now.heavy(v[0], v[1]);
                case "place" -> now.place(v[0], v[1]);
                case "rule" -> now.rule(v[0], v[1]);
                case "free" -> now.free(v[0]);
                case "limit" -> now.limit(v[0]);
                default -> now.ties(v[0]);
            };
            if (a < 0) {
                now = before;
                return -2000 - m.start();
            }
            many++;
        }
        return many;
    }

    int paper(int raw) { return answer(now.paper(raw)); }
    int kind(int p, int k, int f) { return answer(now.kind(p, k, f)); }
    int raw(int p, int v) { return answer(now.raw(p, v)); }
    int heavy(int p, int v) { return answer(now.heavy(p, v)); }
    int place(int p, int v) { return answer(now.place(p, v)); }
    int rule(int l, int u) { return answer(now.rule(l, u)); }
    int free(int r) { return answer(now.free(r)); }
    int limit(int v) { return answer(now.limit(v)); }
    int ties(int t) { return answer(now.ties(t)); }

    int limits() {
        int had = now.limits.size();
        now.limits.clear();
        return had;
    }

    int of(int p, int what) {
        if (!now.has(p)) return answer(-1);
        Paper q = now.papers.get(p);
        return switch (what) {
            case 0 -> q.raw;
            case 1 -> q.kind;
            case 2 -> q.figure;
            case 3 -> q.heavy;
            case 4 -> q.place;
            case 5 -> q.mark();
            case 6 -> q.weight();
            case 7 -> now.grade(Ratio.of(q.mark()));
            default -> answer(-2);
        };
    }

    int ruleOf(int r, int what) {
        if (r < 0 || r >= now.rules.size()) return answer(-1);
        int l = now.rules.get(r).get(0);
        int u = now.rules.get(r).get(1);
        return switch (what) {
            case 0 -> l;
            case 1 -> u;
            case 2 -> now.mark(l) > now.mark(u) ? 1 : 0;
            default -> answer(-2);
        };
    }

    int under(int a, int b) {
        if (!now.has(a) || !now.has(b) || a == b) return answer(-1);
        return now.under(a, b) ? 1 : 0;
    }

    int pairs(int what) {
        if (what != 0 && what != 1) return answer(-2);
        List<int[]> pairs = now.pairs();
        if (what == 0) return pairs.size();
        int best = -1;
        for (int set = 0; set < 1 << now.papers.size(); set++) {
            boolean meets = true;
            for (int[] two : pairs) {
                meets &= (set >> two[0] & 1) + (set >> two[1] & 1) > 0;
            }
            if (meets && (best < 0 || Integer.bitCount(set) < Integer.bitCount(best))) {
                best = set;
            }
        }
        return best;
    }

    private static boolean isLine(int loss) {
        return loss == 0 || loss == 1;
    }

    private static boolean isLoss(int loss) {
        return loss >= 0 && loss <= 2;
    }

    private static boolean isPart(int part) {
        return part == 0 || part == 1;
    }

    long line(int loss, int p, int part) {
        if (!isLine(loss)) return longRefusal(-2);
        if (!now.has(p)) return longRefusal(-1);
        if (!isPart(part)) return longRefusal(-2);
        return now.line(loss).values()[p].part(part);
    }

    int block(int loss, int i) {
        if (!isLine(loss)) return answer(-2);
        List<List<Integer>> blocks = now.line(loss).blocks();
        if (i == -1) return blocks.size();
        if (i < 0 || i >= blocks.size()) return answer(-1);
        int bits = 0;
        for (int p : blocks.get(i)) {
            bits |= 1 << p;
        }
        return bits;
    }

    int merges(int loss) {
        if (!isLine(loss)) return answer(-2);
        return now.line(loss).merges();
    }

    long lineChange(int loss, int part) {
        if (!isLine(loss) || !isPart(part)) return longRefusal(-2);
        return now.change(loss, now.line(loss).values()).part(part);
    }

    private Ratio[] values(int loss) {
        return now.values(loss, now.rules);
    }

    long value(int loss, int p, int part) {
        if (!isLoss(loss)) return longRefusal(-2);
        if (!now.has(p)) return longRefusal(-1);
        if (!isPart(part)) return longRefusal(-2);
        return values(loss)[p].part(part);
    }

    int grade(int loss, int p) {
        if (!isLoss(loss)) return answer(-2);
        if (!now.has(p)) return answer(-1);
        return now.grade(values(loss)[p]);
    }

    long change(int loss, int part) {
        if (!isLoss(loss) || !isPart(part)) return longRefusal(-2);
        return now.change(loss, values(loss)).part(part);
    }

    int pool(int loss, int p) {
        if (!isLoss(loss)) return answer(-2);
        if (!now.has(p)) return answer(-1);
        return now.pool(values(loss), p);
    }

    int binds(int loss) {
        if (!isLoss(loss)) return answer(-2);
        int bits = 0;
        for (int r = 0; r < now.rules.size(); r++) {
            Ratio[] v = values(loss);
            if (v[now.rules.get(r).get(0)].equals(v[now.rules.get(r).get(1)])) {
                bits |= 1 << r;
            }
        }
        return bits;
    }

    private Ratio worth(int loss, int r) {
        List<List<Integer>> fewer = new ArrayList<>(now.rules);
        fewer.remove(r);
        return now.change(loss, values(loss)).minus(now.change(loss, now.values(loss, fewer)));
    }

    long worth(int loss, int r, int part) {
        if (!isLoss(loss)) return longRefusal(-2);
        if (r < 0 || r >= now.rules.size()) return longRefusal(-1);
        if (!isPart(part)) return longRefusal(-2);
        return worth(loss, r).part(part);
    }

    int dearest(int loss) {
        if (!isLoss(loss)) return answer(-2);
        int best = -9;
        Ratio most = Ratio.of(0);
        for (int r = 0; r < now.rules.size(); r++) {
            Ratio w = worth(loss, r);
            if (w.compareTo(most) > 0) {
                most = w;
                best = r;
            }
        }
        return best;
    }

    int needs(int loss, int p, int g) {
        if (!isLoss(loss)) return answer(-2);
        if (!now.has(p)) return answer(-1);
        if (g < 0) return answer(-4);
        if (g > 5) return answer(-6);
        State other = now.copy();
        for (int raw = 0; raw <= 99; raw++) {
            other.papers.get(p).raw = raw;
            if (other.grade(other.values(loss, other.rules)[p]) >= g) {
                return raw;
            }
        }
        return -9;
    }

    long likely(int loss, int p, int t, int part) {
        if (!isLoss(loss)) return longRefusal(-2);
        if (!now.has(p)) return longRefusal(-1);
        if (t < 2) return longRefusal(-4);
        if (t > 20) return longRefusal(-6);
        if (!isPart(part)) return longRefusal(-2);
        return likely(loss, p, t, 0, new ArrayList<>()).part(part);
    }

    private Ratio likely(int loss, int p, int t, int r, List<List<Integer>> there) {
        if (r == now.rules.size()) {
            return Ratio.of(now.values(loss, there)[p].equals(Ratio.of(now.mark(p))) ? 1 : 0);
        }
        List<List<Integer>> with = new ArrayList<>(there);
        with.add(now.rules.get(r));
        Ratio is = likely(loss, p, t, r + 1, with);
        if (r > 4) return is;
        Ratio isNot = likely(loss, p, t, r + 1, there);
        return is.times(Ratio.of(t - 1, t)).plus(isNot.times(Ratio.of(1, t)));
    }

    String said(int p) {
        Ratio v = values(0)[p];
        Ratio more = v.minus(Ratio.of(now.mark(p)));
        String s = p + ":" + now.mark(p);
        s += more.above.signum() == 0 ? "=" : (more.above.signum() > 0 ? "+" : "-") + more.size();
        s += " " + "ABCDEF".charAt(now.grade(v));
        String join = " with ";
        for (int q = 0; q < now.papers.size(); q++) {
            if (q != p && (now.pool(values(0), p) >> q & 1) == 1) {
                s += join + q;
                join = ",";
            }
        }
        return s;
    }

    int says(int p, int i) {
        if (!now.has(p)) return answer(-1);
        String s = said(p);
        if (i == -1) return s.length();
        if (i < 0 || i >= s.length()) return answer(-1);
        return s.charAt(i);
    }

    int whatIs(int p, int what) {
        if (!now.has(p)) return answer(-1);
        if (what != 0 && what != 1) return answer(-2);
        int bits = 0;
        for (int k = 0; k < (what == 0 ? 6 : 10); k++) {
            Paper q = now.papers.get(p).copy();
            if (what == 0) {
                q.kind = k;
            } else {
                q.figure = k;
            }
            boolean all = true;
            for (int i = 0; i < row.size(); i++) {
                q.raw = i * 10;
                all &= q.mark() == row.get(i);
            }
            if (all) {
                bits |= 1 << k;
            }
        }
        return bits;
    }

    int row(int v) {
        if (v < 0) return answer(-4);
        if (v > 999 || row.size() == 10) return answer(-6);
        row.add(v);
        return row.size();
    }

    int clear() {
        int had = row.size();
        row.clear();
        return had;
    }

    int lots(int n, int z, int what) {
        if (n < 1) return answer(-4);
        if (n > 20) return answer(-6);
        if (what != 0 && what != 1) return answer(-2);
        BigInteger seed = BigInteger.valueOf(z);
        int all = 0;
        for (int lot = 0; lot < n; lot++) {
            State drawn = now.copy();
            for (Paper p : drawn.papers) {
                seed = seed.multiply(BigInteger.valueOf(1664525)).add(BigInteger.valueOf(1013904223));
                long unsigned = seed.mod(BigInteger.ONE.shiftLeft(31)).longValueExact();
                p.raw = (int) (unsigned / 256 % 100);
            }
            if (what == 0) {
                all += drawn.pairs().size();
            } else {
                for (int p = 0; p < drawn.papers.size(); p++) {
                    all += drawn.pool(drawn.values(0, drawn.rules), p) != 1 << p ? 1 : 0;
                }
            }
        }
        return all;
    }

    int shelf(int s, int n) {
        if (s < 0 || s > 3) return answer(-1);
        if (n > 20) return answer(-6);
        if (n < 0) return -14;
        shelves[s] = new long[n];
        return 1;
    }

    int put(int s, int i, long v) {
        if (s < 0 || s > 3) return answer(-1);
        if (shelves[s] == null) return -11;
        if (i < 0 || i >= shelves[s].length) return -13;
        shelves[s][i] = v;
        return 1;
    }

    long look(int s, int i) {
        if (s < 0 || s > 3) return longRefusal(-1);
        if (shelves[s] == null) return REFUSED + 11;
        if (i < 0 || i >= shelves[s].length) return REFUSED + 13;
        return shelves[s][i];
    }

    private List<Long> numbers(int loss) {
        List<Long> all = new ArrayList<>();
        for (Ratio v : values(loss)) {
            all.add(v.part(0));
            all.add(v.part(1));
        }
        return all;
    }

    int lays(int loss, int s, int i) {
        if (!isLoss(loss)) return answer(-2);
        if (s < 0 || s > 3) return answer(-1);
        if (shelves[s] == null) return -11;
        long at = i;
        for (long v : numbers(loss)) {
            if (at < 0 || at >= shelves[s].length) return -13;
            shelves[s][(int) at] = v;
            at++;
        }
        return now.papers.size();
    }

    int judge(int loss, int s) {
        if (!isLoss(loss)) return answer(-2);
        if (s < 0 || s > 3) return answer(-1);
        if (shelves[s] == null) return -11;
        int at = 0;
        for (long v : numbers(loss)) {
            if (at == shelves[s].length) return 100 + at / 2;
            if (shelves[s][at] != v) return at / 2;
            at++;
        }
        return -9;
    }

    int image() {
        kept = now.copy();
        return now.papers.size();
    }

    int on() {
        if (kept == null) return answer(-3);
        now = kept.copy();
        return now.papers.size();
    }

    int count(int what) {
        int bits = 0;
        for (int r = 0; r < now.rules.size(); r++) {
            if (now.mark(now.rules.get(r).get(0)) > now.mark(now.rules.get(r).get(1))) {
                bits |= 1 << r;
            }
        }
        return switch (what) {
            case 0 -> now.papers.size();
            case 1 -> now.rules.size();
            case 2 -> now.limits.size();
            case 3 -> now.ties;
            case 4 -> text.length();
            case 5 -> row.size();
            case 6 -> bits;
            case 11, 12, 13, 14, 15, 16 -> (int) refusals[what - 10];
            default -> -9;
        };
    }
}
