/** Papers with marks, graded along a line or by rules of which one may not be above which. */
public final class LatticeGrader {
    private static final int MOST_PAPERS = 7;
    private static final int MOST_RULES = 12;
    private static final int MOST_LIMITS = 5;
    private static final int MOST_LETTERS = 120;
    private static final int MOST_TOLD = 10;
    private static final int MOST_RAW = 99;
    private static final int MOST_DIGIT = 9;
    private static final int MOST_LOTS = 20;
    private static final int MOST_ODDS = 20;
    private static final int UNSURE_RULES = 5;

    private static final int PLAIN = 0;
    private static final int CURVED = 1;
    private static final int LATE = 2;
    private static final int RESIT = 3;
    private static final int BONUS = 4;
    private static final int DOUBLE = 5;

    private static final int SQUARE = 0;
    private static final int ABSOLUTE = 1;
    private static final int WORST = 2;

    private static final int FREE = 0;
    private static final int MEANS = 2;

    private static final int NOBODY = -1;
    private static final int OTHER = -2;
    private static final int STATE = -3;
    private static final int BELOW = -4;
    private static final int ROOM = -6;
    private static final int NONE = -9;
    private static final int MISSING = -11;
    private static final int NO_PLACE = -13;
    private static final int NO_SIZE = -14;
    private static final long REFUSED_LONG = 4000000000000000000L;
    private static final int ALL_BUT_SIGN = 0x7fffffff;

    private final Sheet now = new Sheet();
    private final Sheet kept = new Sheet();
    private final Sheet spare = new Sheet();
    private boolean isKept;
    private final Letters letters = new Letters();
    private final Ints told = new Ints(MOST_TOLD);
    private int toldCount;
    private final Shelves shelves = new Shelves();
    private final Ints refusals = new Ints(7);
    private final Order order = new Order();
    private final Line standing = new Line();
    private final ByRules byRules = new ByRules();
    private final Fraction fraction = new Fraction();
    private final StringBuilder said = new StringBuilder();

    public LatticeGrader() {
    }

    // ---- letters

    public int letter(int c) {
        if (c < 0) {
            return refuse(BELOW);
        }
        if (c > 255 || letters.isFull()) {
            return refuse(ROOM);
        }
        return letters.add(c);
    }

    public int tells() {
        int fault = letters.firstFault();
        int answer = fault < 0 ? takeAll() : -1000 - fault;
        letters.forget();
        return answer;
    }

    // ---- papers, rules

    public int paper(int raw) {
        return counted(now.addPaper(raw));
    }

    public int kind(int paper, int kind, int figure) {
        return counted(now.setKind(paper, kind, figure));
    }

    public int raw(int paper, int v) {
        return counted(now.setRaw(paper, v));
    }

    public int heavy(int paper, int v) {
        return counted(now.setHeavy(paper, v));
    }

    public int place(int paper, int v) {
        return counted(now.setPlace(paper, v));
    }

    public int rule(int lower, int upper) {
        return counted(now.addRule(lower, upper));
    }

    public int free(int rule) {
        return counted(now.takeRule(rule));
    }

    public int limit(int v) {
        return counted(now.addLimit(v));
    }

    public int limits() {
        return now.takeLimits();
    }

    public int ties(int ties) {
        return counted(now.setTies(ties));
    }

    public int of(int paper, int what) {
        if (!now.hasPaper(paper)) {
            return refuse(NOBODY);
        }
        switch (what) {
            case 0: return now.rawOf(paper);
            case 1: return now.kindOf(paper);
            case 2: return now.figureOf(paper);
            case 3: return now.heavyOf(paper);
            case 4: return now.placeOf(paper);
            case 5: return now.markOf(paper);
            case 6: return now.weightOf(paper);
            case 7: return now.gradeOf(now.markOf(paper), 1);
            default: return refuse(OTHER);
        }
    }

    public int ruleOf(int rule, int what) {
        if (!now.hasRule(rule)) {
            return refuse(NOBODY);
        }
        switch (what) {
            case 0: return now.lowerOf(rule);
            case 1: return now.upperOf(rule);
            case 2: return now.isBroken(rule) ? 1 : 0;
            default: return refuse(OTHER);
        }
    }

    public int under(int one, int other) {
        if (!now.areTwo(one, other)) {
            return refuse(NOBODY);
        }
        return now.isUnder(one, other) ? 1 : 0;
    }

    public int pairs(int what) {
        if (!isPart(what)) {
            return refuse(OTHER);
        }
        order.work(now, 0);
        return what == 0 ? order.pairCount() : order.fewestToLeave();
    }

    // ---- the line

    public long line(int loss, int paper, int part) {
        int refusal = whyNoLineValue(loss, paper, part);
        if (refusal != 0) {
            return refuseLong(refusal);
        }
        return standing.work(now, loss).partOf(paper, part);
    }

    public int block(int loss, int i) {
        if (!isLineLoss(loss)) {
            return refuse(OTHER);
        }
        standing.work(now, loss);
        if (i == -1) {
            return standing.blockCount();
        }
        if (i < 0 || i >= standing.blockCount()) {
            return refuse(NOBODY);
        }
        return standing.blockAt(i);
    }

    public int merges(int loss) {
        if (!isLineLoss(loss)) {
            return refuse(OTHER);
        }
        standing.work(now, loss);
        return standing.mergeCount();
    }

    public long lineChange(int loss, int part) {
        if (!isLineLoss(loss) || !isPart(part)) {
            return refuseLong(OTHER);
        }
        standing.work(now, loss).workChange(fraction, loss);
        return fraction.partOf(part);
    }

    // ---- by rules

    public long value(int loss, int paper, int part) {
        int refusal = whyNoValue(loss, paper);
        if (refusal == 0 && !isPart(part)) {
            refusal = OTHER;
        }
        if (refusal != 0) {
            return refuseLong(refusal);
        }
        return byRules.work(now, loss, 0).partOf(paper, part);
    }

    public int grade(int loss, int paper) {
        int refusal = whyNoValue(loss, paper);
        if (refusal != 0) {
            return refuse(refusal);
        }
        return byRules.work(now, loss, 0).gradeIn(now, paper);
    }

    public long change(int loss, int part) {
        if (!isLoss(loss) || !isPart(part)) {
            return refuseLong(OTHER);
        }
        byRules.work(now, loss, 0).workChange(fraction, loss);
        return fraction.partOf(part);
    }

    public int pool(int loss, int paper) {
        int refusal = whyNoValue(loss, paper);
        if (refusal != 0) {
            return refuse(refusal);
        }
        return byRules.work(now, loss, 0).poolOf(now, paper);
    }

    public int binds(int loss) {
        if (!isLoss(loss)) {
            return refuse(OTHER);
        }
        return byRules.work(now, loss, 0).bindingRules(now);
    }

    public long worth(int loss, int rule, int part) {
        if (!isLoss(loss)) {
            return refuseLong(OTHER);
        }
        if (!now.hasRule(rule)) {
            return refuseLong(NOBODY);
        }
        if (!isPart(part)) {
            return refuseLong(OTHER);
        }
        byRules.work(now, loss, 1 << rule).workChange(fraction, loss);
        long lessAbove = fraction.partOf(0);
        long lessBelow = fraction.partOf(1);
        byRules.work(now, loss, 0).workChange(fraction, loss);
        fraction.add(-lessAbove, lessBelow);
        return fraction.partOf(part);
    }

    public int dearest(int loss) {
        if (!isLoss(loss)) {
            return refuse(OTHER);
        }
        byRules.work(now, loss, 0).workChange(fraction, loss);
        long leastAbove = fraction.partOf(0);
        long leastBelow = fraction.partOf(1);
        int dearest = NONE;
        // The RULE with most WORTH is the one without which least CHANGE is left.
        for (int r = 0; r < now.ruleCount(); r++) {
            byRules.work(now, loss, 1 << r).workChange(fraction, loss);
            if (fraction.isBelow(leastAbove, leastBelow)) {
                leastAbove = fraction.partOf(0);
                leastBelow = fraction.partOf(1);
                dearest = r;
            }
        }
        return dearest;
    }

    public int needs(int loss, int paper, int g) {
        int refusal = whyNoValue(loss, paper);
        if (refusal == 0 && g < 0) {
            refusal = BELOW;
        }
        if (refusal == 0 && g > MOST_LIMITS) {
            refusal = ROOM;
        }
        if (refusal != 0) {
            return refuse(refusal);
        }
        return leastRaw(loss, paper, g);
    }

    public long likely(int loss, int paper, int t, int part) {
        int refusal = whyNoValue(loss, paper);
        if (refusal == 0 && t < 2) {
            refusal = BELOW;
        }
        if (refusal == 0 && t > MOST_ODDS) {
            refusal = ROOM;
        }
        if (refusal == 0 && !isPart(part)) {
            refusal = OTHER;
        }
        if (refusal != 0) {
            return refuseLong(refusal);
        }
        workLikely(loss, paper, t);
        return fraction.partOf(part);
    }

    public int says(int paper, int i) {
        if (!now.hasPaper(paper)) {
            return refuse(NOBODY);
        }
        sayPaper(paper);
        if (i == -1) {
            return said.length();
        }
        if (i < 0 || i >= said.length()) {
            return refuse(NOBODY);
        }
        return said.charAt(i);
    }

    // ---- told rows, lots

    public int whatIs(int paper, int what) {
        if (!now.hasPaper(paper)) {
            return refuse(NOBODY);
        }
        if (!isPart(what)) {
            return refuse(OTHER);
        }
        return what == 0 ? kindsAsTold(now.figureOf(paper)) : figuresAsTold(now.kindOf(paper));
    }

    public int row(int v) {
        if (v < 0) {
            return refuse(BELOW);
        }
        if (v > 999 || toldCount >= MOST_TOLD) {
            return refuse(ROOM);
        }
        told.set(toldCount, v);
        toldCount++;
        return toldCount;
    }

    public int clear() {
        int had = toldCount;
        toldCount = 0;
        return had;
    }

    public int lots(int n, int z, int what) {
        if (n < 1) {
            return refuse(BELOW);
        }
        if (n > MOST_LOTS) {
            return refuse(ROOM);
        }
        if (!isPart(what)) {
            return refuse(OTHER);
        }
        return drawAll(n, z, what);
    }

    // ---- shelves

    public int shelf(int shelf, int n) {
        if (!shelves.has(shelf)) {
            return refuse(NOBODY);
        }
        if (n > Shelves.PLACES) {
            return refuse(ROOM);
        }
        if (n < 0) {
            return NO_SIZE;
        }
        shelves.make(shelf, n);
        return 1;
    }

    public int put(int shelf, int i, long v) {
        if (!shelves.has(shelf)) {
            return refuse(NOBODY);
        }
        if (shelves.isMissing(shelf)) {
            return MISSING;
        }
        if (!shelves.hasPlace(shelf, i)) {
            return NO_PLACE;
        }
        shelves.set(shelf, i, v);
        return 1;
    }

    public long look(int shelf, int i) {
        if (!shelves.has(shelf)) {
            return refuseLong(NOBODY);
        }
        if (shelves.isMissing(shelf)) {
            return REFUSED_LONG - MISSING;
        }
        if (!shelves.hasPlace(shelf, i)) {
            return REFUSED_LONG - NO_PLACE;
        }
        return shelves.get(shelf, i);
    }

    public int lays(int loss, int shelf, int i) {
        int refusal = whyNoShelf(loss, shelf);
        if (refusal != 0) {
            return counted(refusal);
        }
        return shelves.layAll(shelf, i, byRules.work(now, loss, 0));
    }

    public int judge(int loss, int shelf) {
        int refusal = whyNoShelf(loss, shelf);
        if (refusal != 0) {
            return counted(refusal);
        }
        return shelves.judgeAll(shelf, byRules.work(now, loss, 0));
    }

    // ---- the image, what is told

    public int image() {
        kept.copyFrom(now);
        isKept = true;
        return now.paperCount();
    }

    public int on() {
        if (!isKept) {
            return refuse(STATE);
        }
        now.copyFrom(kept);
        return now.paperCount();
    }

    public int count(int what) {
        switch (what) {
            case 0: return now.paperCount();
            case 1: return now.ruleCount();
            case 2: return now.limitCount();
            case 3: return now.tiesNow();
            case 4: return letters.size();
            case 5: return toldCount;
            case 6: return now.brokenRules();
            default: return what >= 11 && what <= 16 ? refusals.get(what - 10) : NONE;
        }
    }

    // ---- refusals

    private int refuse(int refusal) {
        refusals.set(-refusal, refusals.get(-refusal) + 1);
        return refusal;
    }

    private long refuseLong(int refusal) {
        return REFUSED_LONG - refuse(refusal);
    }

    /** An answer of a call whose other answers are never -1 .. -6. */
    private int counted(int answer) {
        return answer <= NOBODY && answer >= ROOM ? refuse(answer) : answer;
    }

    private int whyNoLineValue(int loss, int paper, int part) {
        if (!isLineLoss(loss)) {
            return OTHER;
        }
        if (!now.hasPaper(paper)) {
            return NOBODY;
        }
        return isPart(part) ? 0 : OTHER;
    }

    private int whyNoValue(int loss, int paper) {
        if (!isLoss(loss)) {
            return OTHER;
        }
        return now.hasPaper(paper) ? 0 : NOBODY;
    }

    private int whyNoShelf(int loss, int shelf) {
        if (!isLoss(loss)) {
            return OTHER;
        }
        if (!shelves.has(shelf)) {
            return NOBODY;
        }
        return shelves.isMissing(shelf) ? MISSING : 0;
    }

    private static boolean isLoss(int loss) {
        return loss >= SQUARE && loss <= WORST;
    }

    private static boolean isLineLoss(int loss) {
        return loss == SQUARE || loss == ABSOLUTE;
    }

    private static boolean isPart(int part) {
        return part == 0 || part == 1;
    }

    // ---- what the calls work out

    private int takeAll() {
        spare.copyFrom(now);
        letters.readFromFront();
        int statements = 0;
        while (statements < MOST_LETTERS && !letters.isRead()) {
            int first = letters.standsAt();
            letters.readStatement();
            if (now.take(letters) < 0) {
                now.copyFrom(spare);
                return -2000 - first;
            }
            statements++;
        }
        return statements;
    }

    /** VALUE never falls as RAW grows, so the RAWS that are too low are counted by halving. */
    private int leastRaw(int loss, int paper, int g) {
        spare.copyFrom(now);
        int tooLow = 0;
        for (int step = 64; step > 0; step /= 2) {
            int tried = tooLow + step - 1;
            if (tried <= MOST_RAW) {
                spare.setRaw(paper, tried);
                if (byRules.work(spare, loss, 0).gradeIn(spare, paper) < g) {
                    tooLow += step;
                }
            }
        }
        return tooLow > MOST_RAW ? NONE : tooLow;
    }

    private void workLikely(int loss, int paper, int t) {
        int unsure = Math.min(UNSURE_RULES, now.ruleCount());
        long all = 1;
        for (int r = 0; r < unsure; r++) {
            all *= t;
        }
        long hits = 0;
        for (int without = 0; without < 1 << unsure; without++) {
            if (byRules.work(now, loss, without).isMark(paper)) {
                hits += waysOf(without, unsure, t);
            }
        }
        fraction.make(hits, all);
    }

    /** In how many of t ways for each of the unsure RULES just these are not there. */
    private static long waysOf(int without, int unsure, int t) {
        long ways = 1;
        for (int r = 0; r < unsure; r++) {
            ways *= hasBit(without, r) ? 1 : t - 1;
        }
        return ways;
    }

    private void sayPaper(int paper) {
        Values values = byRules.work(now, SQUARE, 0);
        int mark = now.markOf(paper);
        int below = (int) values.partOf(paper, 1);
        int more = (int) values.partOf(paper, 0) - mark * below;
        said.setLength(0);
        said.append(paper);
        said.append(':');
        said.append(mark);
        said.append(more == 0 ? '=' : more > 0 ? '+' : '-');
        if (more != 0) {
            said.append(Math.abs(more));
        }
        if (below != 1) {
            said.append('/');
            said.append(below);
        }
        said.append(' ');
        said.append((char) ('A' + values.gradeIn(now, paper)));
        sayOthers(values.poolOf(now, paper) & ~(1 << paper));
    }

    private void sayOthers(int others) {
        String ahead = " with ";
        for (int p = 0; p < MOST_PAPERS; p++) {
            if (hasBit(others, p)) {
                said.append(ahead);
                said.append(p);
                ahead = ",";
            }
        }
    }

    private int kindsAsTold(int figure) {
        int kinds = 0;
        for (int kind = PLAIN; kind <= DOUBLE; kind++) {
            if (isAsTold(kind, figure)) {
                kinds |= 1 << kind;
            }
        }
        return kinds;
    }

    private int figuresAsTold(int kind) {
        int figures = 0;
        for (int figure = 0; figure <= MOST_DIGIT; figure++) {
            if (isAsTold(kind, figure)) {
                figures |= 1 << figure;
            }
        }
        return figures;
    }

    private boolean isAsTold(int kind, int figure) {
        for (int i = 0; i < toldCount; i++) {
            if (told.get(i) != markBy(kind, 10 * i, figure)) {
                return false;
            }
        }
        return true;
    }

    private int drawAll(int n, int z, int what) {
        spare.copyFrom(now);
        int seed = z;
        int all = 0;
        for (int lot = 0; lot < n; lot++) {
            for (int p = 0; p < spare.paperCount(); p++) {
                seed = seed * 1664525 + 1013904223;
                spare.setRaw(p, (seed & ALL_BUT_SIGN) / 256 % 100);
            }
            all += what == 0 ? pairsIn(spare) : byRules.work(spare, SQUARE, 0).pooledPapers(spare);
        }
        return all;
    }

    private int pairsIn(Sheet sheet) {
        order.work(sheet, 0);
        return order.pairCount();
    }

    private static boolean hasBit(int bits, int i) {
        return (bits >> i & 1) == 1;
    }

    private static int markBy(int kind, int raw, int figure) {
        switch (kind) {
            case CURVED: return raw + figure;
            case BONUS: return raw + figure + (raw >= 70 ? 10 : 0);
            case LATE: return Math.max(0, raw - 3 * figure);
            case RESIT: return Math.min(50, Math.max(0, raw - 3 * figure));
            default: return raw;
        }
    }

    private static int weightBy(int kind, int heavy) {
        switch (kind) {
            case LATE: return (heavy + 1) / 2;
            case RESIT: return (heavy + 1) / 2 + 1;
            case DOUBLE: return 2 * heavy;
            default: return heavy;
        }
    }

    /** A row of ints that answers 0 and takes nothing where it has no place: no index is used untested. */
    private static final class Ints {
        private final int[] cells;

        Ints(int length) {
            cells = new int[Math.max(length, 0)];
        }

        int get(int i) {
            return i >= 0 && i < cells.length ? cells[i] : 0;
        }

        void set(int i, int v) {
            if (i >= 0 && i < cells.length) {
                cells[i] = v;
            }
        }

        void add(int i, int more) {
            set(i, get(i) + more);
        }

        void removeAt(int i) {
            for (int k = i; k < cells.length; k++) {
                set(k, get(k + 1));
            }
        }

        void copyFrom(Ints other) {
            for (int i = 0; i < cells.length; i++) {
                cells[i] = other.get(i);
            }
        }
    }

    /** A fraction in least terms, below the line above 0. */
    private static final class Fraction {
        private long above;
        private long below = 1;

        void make(long newAbove, long newBelow) {
            long common = commonOf(newAbove, newBelow);
            if (newBelow <= 0 || common <= 0) {
                above = 0;
                below = 1;
                return;
            }
            above = newAbove / common;
            below = newBelow / common;
        }

        void add(long moreAbove, long moreBelow) {
            long common = commonOf(below, moreBelow);
            if (common > 0) {
                make(above * (moreBelow / common) + moreAbove * (below / common), below / common * moreBelow);
            }
        }

        boolean isBelow(long otherAbove, long otherBelow) {
            return above * otherBelow < otherAbove * below;
        }

        long partOf(int part) {
            return part == 0 ? above : below;
        }

        /** The greatest common divisor; Euclid needs fewer than 100 steps for longs. */
        static long commonOf(long one, long other) {
            long a = one < 0 ? -one : one;
            long b = other < 0 ? -other : other;
            for (int step = 0; step < 200 && b != 0; step++) {
                long rest = a % b;
                a = b;
                b = rest;
            }
            return a;
        }
    }

    /** PAPERS, RULES, LIMITS and TIES: all that an image keeps. */
    private static final class Sheet {
        private final Ints raws = new Ints(MOST_PAPERS);
        private final Ints kinds = new Ints(MOST_PAPERS);
        private final Ints figures = new Ints(MOST_PAPERS);
        private final Ints heavies = new Ints(MOST_PAPERS);
        private final Ints places = new Ints(MOST_PAPERS);
        private int papers;
        private final Ints lowers = new Ints(MOST_RULES);
        private final Ints uppers = new Ints(MOST_RULES);
        private int rules;
        private final Ints bounds = new Ints(MOST_LIMITS);
        private int boundCount;
        private int tieWay;
        private final Ints reached = new Ints(MOST_PAPERS);

        void copyFrom(Sheet other) {
            raws.copyFrom(other.raws);
            kinds.copyFrom(other.kinds);
            figures.copyFrom(other.figures);
            heavies.copyFrom(other.heavies);
            places.copyFrom(other.places);
            papers = other.papers;
            lowers.copyFrom(other.lowers);
            uppers.copyFrom(other.uppers);
            rules = other.rules;
            bounds.copyFrom(other.bounds);
            boundCount = other.boundCount;
            tieWay = other.tieWay;
        }

        int paperCount() {
            return papers;
        }

        int ruleCount() {
            return rules;
        }

        int limitCount() {
            return boundCount;
        }

        int tiesNow() {
            return tieWay;
        }

        boolean hasPaper(int paper) {
            return paper >= 0 && paper < papers;
        }

        boolean areTwo(int one, int other) {
            return hasPaper(one) && hasPaper(other) && one != other;
        }

        boolean hasRule(int rule) {
            return rule >= 0 && rule < rules;
        }

        int rawOf(int paper) {
            return raws.get(paper);
        }

        int kindOf(int paper) {
            return kinds.get(paper);
        }

        int figureOf(int paper) {
            return figures.get(paper);
        }

        int heavyOf(int paper) {
            return heavies.get(paper);
        }

        int placeOf(int paper) {
            return places.get(paper);
        }

        int markOf(int paper) {
            return markBy(kinds.get(paper), raws.get(paper), figures.get(paper));
        }

        int weightOf(int paper) {
            return weightBy(kinds.get(paper), heavies.get(paper));
        }

        int gradeOf(long above, long below) {
            int notAbove = 0;
            for (int i = 0; i < boundCount; i++) {
                if (bounds.get(i) * below <= above) {
                    notAbove++;
                }
            }
            return notAbove;
        }

        int lowerOf(int rule) {
            return lowers.get(rule);
        }

        int upperOf(int rule) {
            return uppers.get(rule);
        }

        boolean isBroken(int rule) {
            return markOf(lowers.get(rule)) > markOf(uppers.get(rule));
        }

        int brokenRules() {
            int broken = 0;
            for (int r = 0; r < rules; r++) {
                if (isBroken(r)) {
                    broken |= 1 << r;
                }
            }
            return broken;
        }

        boolean isUnder(int one, int other) {
            trace(reached, 0);
            return hasBit(reached.get(one), other);
        }

        /** Lays down, for each paper, the bits of those that it is UNDER, were some RULES not there. */
        void trace(Ints overs, int without) {
            for (int p = 0; p < papers; p++) {
                overs.set(p, 0);
            }
            boolean grown = true;
            for (int round = 0; round < papers && grown; round++) {
                grown = false;
                for (int r = 0; r < rules; r++) {
                    int lower = lowers.get(r);
                    int had = overs.get(lower);
                    int has = had | overs.get(uppers.get(r)) | 1 << uppers.get(r);
                    if (has != had && !hasBit(without, r)) {
                        overs.set(lower, has);
                        grown = true;
                    }
                }
            }
        }

        int addPaper(int raw) {
            if (raw < 0) {
                return BELOW;
            }
            if (raw > MOST_RAW || papers >= MOST_PAPERS) {
                return ROOM;
            }
            raws.set(papers, raw);
            kinds.set(papers, PLAIN);
            figures.set(papers, 0);
            heavies.set(papers, 1);
            places.set(papers, papers);
            papers++;
            return papers - 1;
        }

        int setKind(int paper, int kind, int figure) {
            if (!hasPaper(paper)) {
                return NOBODY;
            }
            if (kind < PLAIN || kind > DOUBLE) {
                return OTHER;
            }
            if (figure < 0) {
                return BELOW;
            }
            if (figure > MOST_DIGIT) {
                return ROOM;
            }
            int had = 10 * kinds.get(paper) + figures.get(paper);
            kinds.set(paper, kind);
            figures.set(paper, figure);
            return had;
        }

        int setRaw(int paper, int v) {
            return swap(raws, paper, v, 0, MOST_RAW);
        }

        int setHeavy(int paper, int v) {
            return swap(heavies, paper, v, 1, MOST_DIGIT);
        }

        int setPlace(int paper, int v) {
            return swap(places, paper, v, 0, MOST_DIGIT);
        }

        private int swap(Ints cells, int paper, int v, int least, int most) {
            if (!hasPaper(paper)) {
                return NOBODY;
            }
            if (v < least) {
                return BELOW;
            }
            if (v > most) {
                return ROOM;
            }
            int had = cells.get(paper);
            cells.set(paper, v);
            return had;
        }

        int addRule(int lower, int upper) {
            if (!areTwo(lower, upper)) {
                return NOBODY;
            }
            if (isThere(lower, upper) || isUnder(upper, lower)) {
                return STATE;
            }
            if (rules >= MOST_RULES) {
                return ROOM;
            }
            lowers.set(rules, lower);
            uppers.set(rules, upper);
            rules++;
            return rules - 1;
        }

        private boolean isThere(int lower, int upper) {
            for (int r = 0; r < rules; r++) {
                if (lowers.get(r) == lower && uppers.get(r) == upper) {
                    return true;
                }
            }
            return false;
        }

        int takeRule(int rule) {
            if (!hasRule(rule)) {
                return NOBODY;
            }
            lowers.removeAt(rule);
            uppers.removeAt(rule);
            rules--;
            return rules;
        }

        int addLimit(int v) {
            if (v < 1) {
                return BELOW;
            }
            if (v > MOST_RAW || boundCount >= MOST_LIMITS) {
                return ROOM;
            }
            if (boundCount > 0 && v <= bounds.get(boundCount - 1)) {
                return STATE;
            }
            bounds.set(boundCount, v);
            boundCount++;
            return boundCount;
        }

        int takeLimits() {
            int had = boundCount;
            boundCount = 0;
            return had;
        }

        int setTies(int ties) {
            if (ties < FREE || ties > MEANS) {
                return OTHER;
            }
            int had = tieWay;
            tieWay = ties;
            return had;
        }

        /** Takes the STATEMENT just read; below 0, if it is not as it must be. */
        int take(Letters letters) {
            int first = letters.numberAt(0);
            int second = letters.numberAt(1);
            switch (letters.wordRead()) {
                case Letters.PAPER_WORD: return addPaper(first);
                case Letters.KIND_WORD: return setKind(first, second, letters.numberAt(2));
                case Letters.HEAVY_WORD: return setHeavy(first, second);
                case Letters.PLACE_WORD: return setPlace(first, second);
                case Letters.RULE_WORD: return addRule(first, second);
                case Letters.FREE_WORD: return takeRule(first);
                case Letters.LIMIT_WORD: return addLimit(first);
                case Letters.TIES_WORD: return setTies(first);
                default: return STATE;
            }
        }
    }

    /** Who is UNDER whom, and the PAIRS. */
    private static final class Order {
        private final Ints overs = new Ints(MOST_PAPERS);
        private final Ints unders = new Ints(MOST_PAPERS);
        private final Ints marks = new Ints(MOST_PAPERS);
        private final Ints wrongs = new Ints(MOST_PAPERS);
        private int papers;

        void work(Sheet sheet, int without) {
            papers = sheet.paperCount();
            sheet.trace(overs, without);
            for (int p = 0; p < papers; p++) {
                marks.set(p, sheet.markOf(p));
                unders.set(p, 0);
                wrongs.set(p, 0);
            }
            for (int p = 0; p < papers; p++) {
                meetOvers(p, overs.get(p));
            }
        }

        private void meetOvers(int paper, int itsOvers) {
            for (int q = 0; q < papers; q++) {
                if (hasBit(itsOvers, q)) {
                    unders.add(q, 1 << paper);
                    wrongs.add(paper, marks.get(paper) > marks.get(q) ? 1 << q : 0);
                }
            }
        }

        int oversOf(int paper) {
            return overs.get(paper);
        }

        int undersOf(int paper) {
            return unders.get(paper);
        }

        int pairCount() {
            int all = 0;
            for (int p = 0; p < papers; p++) {
                all += Integer.bitCount(wrongs.get(p));
            }
            return all;
        }

        int fewestToLeave() {
            int best = (1 << papers) - 1;
            // From many bits down to none, so that of equally many the least stays.
            for (int bits = best; bits >= 0; bits--) {
                if (Integer.bitCount(bits) <= Integer.bitCount(best) && meetsAllPairs(bits)) {
                    best = bits;
                }
            }
            return best;
        }

        private boolean meetsAllPairs(int bits) {
            for (int p = 0; p < papers; p++) {
                if (!hasBit(bits, p) && (wrongs.get(p) & ~bits) != 0) {
                    return false;
                }
            }
            return true;
        }
    }

    /** A VALUE for each paper of a sheet, and what follows from the VALUES. */
    private static final class Values {
        private final Ints marks = new Ints(MOST_PAPERS);
        private final Ints weights = new Ints(MOST_PAPERS);
        private final Ints places = new Ints(MOST_PAPERS);
        private final Ints aboves = new Ints(MOST_PAPERS);
        private final Ints belows = new Ints(MOST_PAPERS);
        private final Fraction reduced = new Fraction();
        private int papers;

        /** Every VALUE is MARK at first. */
        void begin(Sheet sheet) {
            papers = sheet.paperCount();
            for (int p = 0; p < papers; p++) {
                int mark = sheet.markOf(p);
                marks.set(p, mark);
                weights.set(p, sheet.weightOf(p));
                places.set(p, sheet.placeOf(p));
                aboves.set(p, mark);
                belows.set(p, 1);
            }
        }

        int paperCount() {
            return papers;
        }

        int allPapers() {
            return (1 << papers) - 1;
        }

        int markAt(int paper) {
            return marks.get(paper);
        }

        int weightAt(int paper) {
            return weights.get(paper);
        }

        int placeAt(int paper) {
            return places.get(paper);
        }

        int papersAt(int place) {
            int bits = 0;
            for (int p = 0; p < papers; p++) {
                if (places.get(p) == place) {
                    bits |= 1 << p;
                }
            }
            return bits;
        }

        /** MARK times WEIGHT of some, added up. */
        int sumOf(int bits) {
            int sum = 0;
            for (int p = 0; p < papers; p++) {
                sum += hasBit(bits, p) ? marks.get(p) * weights.get(p) : 0;
            }
            return sum;
        }

        int weightOf(int bits) {
            int sum = 0;
            for (int p = 0; p < papers; p++) {
                sum += hasBit(bits, p) ? weights.get(p) : 0;
            }
            return sum;
        }

        int middleOf(int bits) {
            int all = weightOf(bits);
            int middle = -1;
            for (int p = 0; p < papers; p++) {
                int mark = marks.get(p);
                boolean isLeast = middle < 0 || mark < middle;
                if (hasBit(bits, p) && isLeast && 2 * weightOf(bits & papersUpTo(mark)) >= all) {
                    middle = mark;
                }
            }
            return middle;
        }

        int papersUpTo(int mark) {
            int bits = 0;
            for (int p = 0; p < papers; p++) {
                bits |= marks.get(p) <= mark ? 1 << p : 0;
            }
            return bits;
        }

        boolean breakAny(Sheet sheet, int without) {
            for (int r = 0; r < sheet.ruleCount(); r++) {
                if (!hasBit(without, r) && marks.get(sheet.lowerOf(r)) > marks.get(sheet.upperOf(r))) {
                    return true;
                }
            }
            return false;
        }

        void lay(int bits, long above, long below) {
            reduced.make(above, below);
            for (int p = 0; p < papers; p++) {
                if (hasBit(bits, p)) {
                    aboves.set(p, (int) reduced.partOf(0));
                    belows.set(p, (int) reduced.partOf(1));
                }
            }
        }

        long partOf(int paper, int part) {
            return part == 0 ? aboves.get(paper) : belows.get(paper);
        }

        int gradeIn(Sheet sheet, int paper) {
            return sheet.gradeOf(aboves.get(paper), belows.get(paper));
        }

        boolean isMark(int paper) {
            return aboves.get(paper) == marks.get(paper) && belows.get(paper) == 1;
        }

        void workChange(Fraction sum, int loss) {
            sum.make(0, 1);
            // By places: fractions of one place are done with before the next, which keeps the sum's parts small.
            for (int place = 0; place <= MOST_DIGIT; place++) {
                for (int p = 0; p < papers; p++) {
                    if (places.get(p) == place) {
                        addChange(sum, loss, p);
                    }
                }
            }
        }

        private void addChange(Fraction sum, int loss, int paper) {
            long below = belows.get(paper);
            long apart = Math.abs(aboves.get(paper) - marks.get(paper) * below);
            if (loss == SQUARE) {
                sum.add(weights.get(paper) * apart * apart, below * below);
            } else if (loss == ABSOLUTE) {
                sum.add(weights.get(paper) * apart, below);
            } else if (sum.isBelow(apart, below)) {
                sum.make(apart, below);
            }
        }

        private boolean doesBind(Sheet sheet, int rule) {
            int lower = sheet.lowerOf(rule);
            int upper = sheet.upperOf(rule);
            return aboves.get(lower) == aboves.get(upper) && belows.get(lower) == belows.get(upper);
        }

        int bindingRules(Sheet sheet) {
            int binding = 0;
            for (int r = 0; r < sheet.ruleCount(); r++) {
                if (doesBind(sheet, r)) {
                    binding |= 1 << r;
                }
            }
            return binding;
        }

        int poolOf(Sheet sheet, int paper) {
            int binding = bindingRules(sheet);
            int pool = 1 << paper;
            for (int round = 0; round < papers; round++) {
                for (int r = 0; r < sheet.ruleCount(); r++) {
                    int both = 1 << sheet.lowerOf(r) | 1 << sheet.upperOf(r);
                    if (hasBit(binding, r) && (pool & both) != 0) {
                        pool |= both;
                    }
                }
            }
            return pool;
        }

        /** How many have others in their POOL: those that a binding RULE names. */
        int pooledPapers(Sheet sheet) {
            int pooled = 0;
            for (int r = 0; r < sheet.ruleCount(); r++) {
                if (doesBind(sheet, r)) {
                    pooled |= 1 << sheet.lowerOf(r) | 1 << sheet.upperOf(r);
                }
            }
            return Integer.bitCount(pooled);
        }
    }

    /** THE LINE: blocks one behind the other, and the VALUES in it. */
    private static final class Line {
        private final Values values = new Values();
        private final Ints blocks = new Ints(MOST_PAPERS);
        private final Ints tops = new Ints(MOST_PAPERS);
        private final Ints bottoms = new Ints(MOST_PAPERS);
        private int blocksNow;
        private int mergesDone;
        private int loss;

        Values work(Sheet sheet, int byLoss) {
            loss = byLoss;
            blocksNow = 0;
            mergesDone = 0;
            values.begin(sheet);
            if (sheet.tiesNow() == FREE) {
                standOneByOne();
            } else {
                standByPlaces();
            }
            mergeAll();
            layAll(sheet.tiesNow() == MEANS);
            return values;
        }

        int blockCount() {
            return blocksNow;
        }

        int blockAt(int i) {
            return blocks.get(i);
        }

        int mergeCount() {
            return mergesDone;
        }

        private void standOneByOne() {
            int rest = values.allPapers();
            for (int i = 0; i < values.paperCount(); i++) {
                int first = 1 << firstOf(rest);
                standBehind(first);
                rest &= ~first;
            }
        }

        private int firstOf(int rest) {
            int first = -1;
            for (int p = 0; p < values.paperCount(); p++) {
                if (hasBit(rest, p) && (first < 0 || isAhead(p, first))) {
                    first = p;
                }
            }
            return Math.max(first, 0);
        }

        private boolean isAhead(int one, int other) {
            int byPlace = Integer.compare(values.placeAt(one), values.placeAt(other));
            return byPlace < 0 || byPlace == 0 && values.markAt(one) < values.markAt(other);
        }

        private void standByPlaces() {
            for (int place = 0; place <= MOST_DIGIT; place++) {
                int bits = values.papersAt(place);
                if (bits != 0) {
                    standBehind(bits);
                }
            }
        }

        private void standBehind(int bits) {
            blocks.set(blocksNow, bits);
            blocksNow++;
        }

        private void measure(int i) {
            tops.set(i, numberTop(blocks.get(i)));
            bottoms.set(i, numberBottom(blocks.get(i)));
        }

        private void mergeAll() {
            for (int i = 0; i < blocksNow; i++) {
                measure(i);
            }
            int first = firstToMerge();
            for (int step = 0; step < MOST_PAPERS && first >= 0; step++) {
                mergeWithNext(first);
                measure(first);
                first = firstToMerge();
            }
        }

        private void mergeWithNext(int i) {
            blocks.add(i, blocks.get(i + 1));
            blocks.removeAt(i + 1);
            tops.removeAt(i + 1);
            bottoms.removeAt(i + 1);
            blocksNow--;
            mergesDone++;
        }

        private int firstToMerge() {
            for (int i = 0; i + 1 < blocksNow; i++) {
                if (tops.get(i) * bottoms.get(i + 1) >= tops.get(i + 1) * bottoms.get(i)) {
                    return i;
                }
            }
            return -1;
        }

        private void layAll(boolean byMeans) {
            for (int i = 0; i < blocksNow; i++) {
                if (byMeans) {
                    layByMeans(i);
                } else {
                    values.lay(blocks.get(i), tops.get(i), bottoms.get(i));
                }
            }
        }

        private void layByMeans(int i) {
            long top = tops.get(i);
            long bottom = bottoms.get(i);
            for (int p = 0; p < values.paperCount(); p++) {
                if (hasBit(blocks.get(i), p)) {
                    int alike = values.papersAt(values.placeAt(p));
                    long placeTop = numberTop(alike);
                    long placeBottom = numberBottom(alike);
                    long above = (values.markAt(p) * bottom + top) * placeBottom - placeTop * bottom;
                    values.lay(1 << p, above, bottom * placeBottom);
                }
            }
        }

        /** NUMBER above the line. */
        private int numberTop(int bits) {
            return loss == ABSOLUTE ? values.middleOf(bits) : values.sumOf(bits);
        }

        /** NUMBER below the line. */
        private int numberBottom(int bits) {
            return loss == ABSOLUTE ? 1 : values.weightOf(bits);
        }
    }

    /** VALUES by RULES. A set of papers, as bits, is LOW in a rest if it has all of the rest UNDER its papers. */
    private static final class ByRules {
        private final Values values = new Values();
        private final Order order = new Order();
        private final Ints sums = new Ints(1 << MOST_PAPERS);
        private final Ints weighs = new Ints(1 << MOST_PAPERS);
        private final Ints downs = new Ints(1 << MOST_PAPERS);

        Values work(Sheet sheet, int loss, int without) {
            values.begin(sheet);
            // If the MARKS break no RULE, by each LOSS nothing is to be changed.
            if (!values.breakAny(sheet, without)) {
                return values;
            }
            order.work(sheet, without);
            if (loss == WORST) {
                layHalfways();
                return values;
            }
            fillSets();
            if (loss == SQUARE) {
                layLeastSquares();
            } else {
                layLeastAbsolutes();
            }
            return values;
        }

        private void layHalfways() {
            for (int p = 0; p < values.paperCount(); p++) {
                int greatest = values.markAt(p);
                int least = greatest;
                for (int q = 0; q < values.paperCount(); q++) {
                    if (hasBit(order.undersOf(p), q)) {
                        greatest = Math.max(greatest, values.markAt(q));
                    }
                    if (hasBit(order.oversOf(p), q)) {
                        least = Math.min(least, values.markAt(q));
                    }
                }
                values.lay(1 << p, greatest + least, 2);
            }
        }

        private void fillSets() {
            for (int p = 0; p < values.paperCount(); p++) {
                int first = 1 << p;
                int weight = values.weightAt(p);
                for (int bits = 0; bits < first; bits++) {
                    sums.set(first + bits, sums.get(bits) + weight * values.markAt(p));
                    weighs.set(first + bits, weighs.get(bits) + weight);
                    downs.set(first + bits, downs.get(bits) | order.undersOf(p));
                }
            }
        }

        private boolean isLow(int bits, int rest) {
            return (downs.get(bits) & rest & ~bits) == 0;
        }

        /** The low set with the least MEAN keeps it in the best VALUES, and so, each in its turn, do those left. */
        private void layLeastSquares() {
            int rest = values.allPapers();
            for (int round = 0; round < MOST_PAPERS && rest != 0; round++) {
                int bits = leastByMean(rest);
                values.lay(bits, sums.get(bits), weighs.get(bits));
                rest &= ~bits;
            }
        }

        private int leastByMean(int rest) {
            int best = rest;
            for (int bits = rest; bits > 0; bits = (bits - 1) & rest) {
                if (isLow(bits, rest) && sums.get(bits) * weighs.get(best) < sums.get(best) * weighs.get(bits)) {
                    best = bits;
                }
            }
            return best;
        }

        /** Absolute CHANGE is a sum over the gaps between MARKS: at each gap the cheapest low set stays below it. */
        private void layLeastAbsolutes() {
            int rest = values.allPapers();
            int mark = leastMarkAbove(-1);
            for (int round = 0; round < MOST_PAPERS && rest != 0; round++) {
                int next = leastMarkAbove(mark);
                int bits = next > mark ? cheapest(values.papersUpTo(mark), rest) : rest;
                values.lay(bits, mark, 1);
                rest &= ~bits;
                mark = next;
            }
        }

        /** The mark itself, if none is above it. */
        private int leastMarkAbove(int mark) {
            int least = mark;
            for (int p = 0; p < values.paperCount(); p++) {
                int its = values.markAt(p);
                if (its > mark && (least == mark || its < least)) {
                    least = its;
                }
            }
            return least;
        }

        /** Of several all together: that is as cheap, and leaves the least VALUES. */
        private int cheapest(int lesser, int rest) {
            int best = 0;
            int least = 0;
            for (int bits = rest; bits > 0; bits = (bits - 1) & rest) {
                int cost = weighs.get(bits) - 2 * weighs.get(bits & lesser);
                if (cost <= least && isLow(bits, rest)) {
                    best = cost < least ? bits : best | bits;
                    least = cost;
                }
            }
            return best;
        }
    }

    /** The letters that have come, and a reader that goes through them STATEMENT by STATEMENT. */
    private static final class Letters {
        static final int PAPER_WORD = 0;
        static final int KIND_WORD = 1;
        static final int HEAVY_WORD = 2;
        static final int PLACE_WORD = 3;
        static final int RULE_WORD = 4;
        static final int FREE_WORD = 5;
        static final int LIMIT_WORD = 6;
        static final int TIES_WORD = 7;
        private static final int WORDS = 8;

        private final Ints signs = new Ints(MOST_LETTERS);
        private final Ints numbers = new Ints(3);
        private int size;
        private int at;
        private int word;

        int size() {
            return size;
        }

        boolean isFull() {
            return size >= MOST_LETTERS;
        }

        int add(int sign) {
            signs.set(size, sign);
            size++;
            return size;
        }

        void forget() {
            size = 0;
        }

        void readFromFront() {
            at = 0;
        }

        boolean isRead() {
            return at >= size;
        }

        int standsAt() {
            return at;
        }

        int wordRead() {
            return word;
        }

        int numberAt(int i) {
            return numbers.get(i);
        }

        /** The place of the first letter with which no STATEMENTS can go on; -1, if there is none. */
        int firstFault() {
            readFromFront();
            boolean fine = readStatement();
            for (int step = 0; step < MOST_LETTERS && fine && !isRead(); step++) {
                fine = readStatement();
            }
            return fine ? -1 : at;
        }

        /** Stands behind it then; if it is none, at the letter that does not fit. */
        boolean readStatement() {
            return readWord() && readNumbers() && readEnd();
        }

        private boolean readWord() {
            int longest = 0;
            for (int w = 0; w < WORDS; w++) {
                int alike = alikeWith(textOf(w));
                if (alike == textOf(w).length()) {
                    word = w;
                    at += alike;
                    return true;
                }
                longest = Math.max(longest, alike);
            }
            at += longest;
            return false;
        }

        private int alikeWith(String text) {
            int alike = 0;
            while (alike < text.length() && signAt(at + alike) == text.charAt(alike)) {
                alike++;
            }
            return alike;
        }

        private boolean readNumbers() {
            for (int i = 0; i < numbersOf(word); i++) {
                if (signAt(at) != ' ') {
                    return false;
                }
                at++;
                if (!isDigit(signAt(at))) {
                    return false;
                }
                int number = signAt(at) - '0';
                at++;
                if (isDigit(signAt(at))) {
                    number = 10 * number + signAt(at) - '0';
                    at++;
                }
                numbers.set(i, number);
            }
            return true;
        }

        private boolean readEnd() {
            if (signAt(at) != ';') {
                return false;
            }
            at++;
            return true;
        }

        private int signAt(int i) {
            return i < size ? signs.get(i) : -1;
        }

        private static boolean isDigit(int sign) {
            return sign >= '0' && sign <= '9';
        }

        private static String textOf(int word) {
            switch (word) {
                case PAPER_WORD: return "paper";
                case KIND_WORD: return "kind";
                case HEAVY_WORD: return "heavy";
                case PLACE_WORD: return "place";
                case RULE_WORD: return "rule";
                case FREE_WORD: return "free";
                case LIMIT_WORD: return "limit";
                default: return "ties";
            }
        }

        private static int numbersOf(int word) {
            switch (word) {
                case KIND_WORD: return 3;
                case HEAVY_WORD:
                case PLACE_WORD:
                case RULE_WORD: return 2;
                default: return 1;
            }
        }
    }

    /** SHELVES 0 .. 3: rows of longs, missing at first. */
    private static final class Shelves {
        static final int PLACES = 20;
        private static final int SHELVES = 4;

        private final long[] cells = new long[SHELVES * PLACES];
        private final Ints sizes = new Ints(SHELVES);
        private final Ints made = new Ints(SHELVES);

        boolean has(int shelf) {
            return shelf >= 0 && shelf < SHELVES;
        }

        boolean isMissing(int shelf) {
            return made.get(shelf) == 0;
        }

        boolean hasPlace(int shelf, int i) {
            return i >= 0 && i < sizes.get(shelf);
        }

        void make(int shelf, int size) {
            made.set(shelf, 1);
            sizes.set(shelf, size);
            for (int i = 0; i < size; i++) {
                set(shelf, i, 0);
            }
        }

        long get(int shelf, int i) {
            int cell = shelf * PLACES + i;
            return cell >= 0 && cell < cells.length ? cells[cell] : 0;
        }

        void set(int shelf, int i, long v) {
            int cell = shelf * PLACES + i;
            if (cell >= 0 && cell < cells.length) {
                cells[cell] = v;
            }
        }

        int layAll(int shelf, int from, Values values) {
            for (int k = 0; k < 2 * values.paperCount(); k++) {
                if (!hasPlace(shelf, from + k)) {
                    return NO_PLACE;
                }
                set(shelf, from + k, values.partOf(k / 2, k % 2));
            }
            return values.paperCount();
        }

        int judgeAll(int shelf, Values values) {
            for (int k = 0; k < 2 * values.paperCount(); k++) {
                if (!hasPlace(shelf, k)) {
                    return 100 + k / 2;
                }
                if (get(shelf, k) != values.partOf(k / 2, k % 2)) {
                    return k / 2;
                }
            }
            return NONE;
        }
    }
}
