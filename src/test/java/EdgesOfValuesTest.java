/** The document's edges, sentence by sentence: THE LINE, VALUES by RULES, and what is told by them. */
public final class EdgesOfValuesTest {
    public static void main(String[] args) {
        noPapers();
        means();
        middles();
        standFree();
        standByPlaces();
        merges();
        blocks();
        valuesByMeans();
        lineChanges();
        fractions();
        squares();
        absolutes();
        worsts();
        noRuleIsBroken();
        gradesOfValues();
        changes();
        pools();
        binds();
        worths();
        dearest();
        needsByKinds();
        needsByRules();
        likely();
        likelyOfLaterRules();
        said();
        saidGrades();
        Edges.end();
    }

    private static void line(LatticeGrader x, int loss, int paper, long above, long below) {
        Edges.dueFraction(x.line(loss, paper, 0), x.line(loss, paper, 1), above, below);
    }

    private static void lineChange(LatticeGrader x, int loss, long above, long below) {
        Edges.dueFraction(x.lineChange(loss, 0), x.lineChange(loss, 1), above, below);
    }

    private static void value(LatticeGrader x, int loss, int paper, long above, long below) {
        Edges.dueFraction(x.value(loss, paper, 0), x.value(loss, paper, 1), above, below);
    }

    private static void change(LatticeGrader x, int loss, long above, long below) {
        Edges.dueFraction(x.change(loss, 0), x.change(loss, 1), above, below);
    }

    private static void worth(LatticeGrader x, int loss, int rule, long above, long below) {
        Edges.dueFraction(x.worth(loss, rule, 0), x.worth(loss, rule, 1), above, below);
    }

    private static void likelihood(LatticeGrader x, int loss, int paper, int t, long above, long below) {
        Edges.dueFraction(x.likely(loss, paper, t, 0), x.likely(loss, paper, t, 1), above, below);
    }

    private static void noPapers() {
        Edges.sentence("(0 by 1, if nothing), of no PAPERS");
        LatticeGrader x = new LatticeGrader();
        for (int ties = 0; ties <= 2; ties++) {
            x.ties(ties);
            for (int loss = 0; loss <= 1; loss++) {
                lineChange(x, loss, 0, 1);
                Edges.due(x.merges(loss), 0);
                Edges.due(x.block(loss, -1), 0);
                Edges.due(x.block(loss, 0), -1);
            }
        }
        for (int loss = 0; loss <= 2; loss++) {
            change(x, loss, 0, 1);
            Edges.due(x.binds(loss), 0);
            Edges.due(x.dearest(loss), -9);
        }
        Edges.sentence("of one PAPER");
        LatticeGrader one = Edges.with(99);
        for (int ties = 0; ties <= 2; ties++) {
            one.ties(ties);
            for (int loss = 0; loss <= 1; loss++) {
                line(one, loss, 0, 99, 1);
                lineChange(one, loss, 0, 1);
                Edges.due(one.merges(loss), 0);
                Edges.due(one.block(loss, -1), 1);
                Edges.due(one.block(loss, 0), 1);
                Edges.due(one.block(loss, 1), -1);
            }
        }
        for (int loss = 0; loss <= 2; loss++) {
            value(one, loss, 0, 99, 1);
            change(one, loss, 0, 1);
            Edges.due(one.pool(loss, 0), 1);
            Edges.due(one.grade(loss, 0), 0);
            Edges.due(one.dearest(loss), -9);
            likelihood(one, loss, 0, 2, 1, 1);
            likelihood(one, loss, 0, 20, 1, 1);
        }
    }

    /** All of one PLACE, TOGETHER: the one BLOCK's NUMBER. */
    private static LatticeGrader together(int[] raws, int[] heavies) {
        LatticeGrader x = Edges.with(raws);
        for (int p = 0; p < raws.length; p++) {
            x.place(p, 5);
            x.heavy(p, heavies[p]);
        }
        x.ties(1);
        return x;
    }

    private static void means() {
        Edges.sentence("MEAN of some PAPERS: MARK times WEIGHT, added up, by their WEIGHTS together");
        LatticeGrader x = together(new int[] {10, 20}, new int[] {1, 2});
        line(x, 0, 0, 50, 3);
        line(x, 0, 1, 50, 3);
        line(together(new int[] {0, 0, 0}, new int[] {9, 1, 1}), 0, 2, 0, 1);
        line(together(new int[] {99, 99, 98}, new int[] {9, 9, 9}), 0, 2, 296, 3);
        // WEIGHT and MARK, not HEAVY and RAW.
        x.kind(0, 5, 0);
        line(x, 0, 0, 15, 1);
        x.kind(0, 4, 9);
        line(x, 0, 0, 59, 3);
        x.kind(1, 3, 1);
        line(x, 0, 0, 19 + 2 * 17, 3);
    }

    private static void middle(int[] raws, int[] heavies, int due) {
        LatticeGrader x = together(raws, heavies);
        for (int p = 0; p < raws.length; p++) {
            line(x, 1, p, due, 1);
        }
    }

    private static void middles() {
        Edges.sentence("MIDDLE: the least MARK .. with that MARK or a lesser one have half of their WEIGHTS together, or more");
        middle(new int[] {10, 20}, new int[] {1, 1}, 10);
        middle(new int[] {20, 10}, new int[] {1, 1}, 10);
        middle(new int[] {10, 20}, new int[] {1, 2}, 20);
        middle(new int[] {10, 20}, new int[] {2, 1}, 10);
        middle(new int[] {30, 10, 20}, new int[] {1, 1, 1}, 20);
        middle(new int[] {10, 20, 30}, new int[] {1, 1, 2}, 20);
        middle(new int[] {10, 20, 30}, new int[] {1, 1, 3}, 30);
        middle(new int[] {10, 20, 30}, new int[] {2, 1, 1}, 10);
        middle(new int[] {10, 20, 30}, new int[] {1, 9, 1}, 20);
        middle(new int[] {10, 10, 20}, new int[] {1, 1, 2}, 10);
        middle(new int[] {10, 10, 20}, new int[] {1, 1, 3}, 20);
        middle(new int[] {0, 99}, new int[] {9, 9}, 0);
        middle(new int[] {70, 60, 50, 40, 30, 20, 10}, new int[] {1, 1, 1, 1, 1, 1, 1}, 40);
        middle(new int[] {70, 60, 50, 40, 30, 20}, new int[] {1, 1, 1, 1, 1, 1}, 40);
        middle(new int[] {1, 2, 3, 4, 5, 6, 7}, new int[] {9, 9, 9, 9, 9, 9, 9}, 4);
    }

    private static void standFree() {
        Edges.sentence("FREE: each PAPER is one: by PLACES, of alike ones by MARKS, then by numbers");
        LatticeGrader x = Edges.with(10, 20, 30, 40, 50, 60, 70);
        for (int loss = 0; loss <= 1; loss++) {
            Edges.due(x.block(loss, -1), 7);
            for (int p = 0; p < 7; p++) {
                Edges.due(x.block(loss, p), 1 << p);
                line(x, loss, p, 10 * p + 10, 1);
            }
            Edges.due(x.block(loss, 7), -1);
            Edges.due(x.merges(loss), 0);
        }
        // From 9 down to 3, and the MARKS fall with the numbers.
        LatticeGrader turned = Edges.with(70, 60, 50, 40, 30, 20, 10);
        for (int p = 0; p < 7; p++) {
            turned.place(p, 9 - p);
        }
        for (int i = 0; i < 7; i++) {
            Edges.due(turned.block(0, i), 1 << 6 - i);
        }
        // All at one PLACE: by MARKS, whatever the numbers are.
        LatticeGrader one = Edges.with(50, 10, 40, 20, 30);
        for (int place : new int[] {0, 9}) {
            for (int p = 0; p < 5; p++) {
                one.place(p, place);
            }
            int[] order = {1, 3, 4, 2, 0};
            for (int i = 0; i < 5; i++) {
                Edges.due(one.block(0, i), 1 << order[i]);
            }
        }
        // By MARK, not by RAW.
        one.kind(1, 1, 9);
        one.raw(1, 32);
        Edges.due(one.block(0, 0), 8);
        Edges.due(one.block(0, 1), 16);
        Edges.due(one.block(0, 2), 4);
        Edges.due(one.block(0, 3), 2);
        // Of alike MARKS, too, NUMBERS are not below: they become one.
        one.raw(1, 31);
        Edges.due(one.block(1, 2), 6);
        Edges.due(one.merges(1), 1);
    }

    private static void standByPlaces() {
        Edges.sentence("TOGETHER, MEANS: all of one PLACE are one, by PLACES");
        LatticeGrader x = Edges.with(10, 60, 20, 90, 70);
        x.place(0, 9);
        x.place(1, 0);
        x.place(2, 0);
        x.place(3, 9);
        x.place(4, 4);
        for (int ties = 1; ties <= 2; ties++) {
            x.ties(ties);
            // 60 and 20, then 70, then 10 and 90: 40, 70, 50.
            Edges.due(x.block(0, -1), 2);
            Edges.due(x.block(0, 0), 6);
            Edges.due(x.block(0, 1), 25);
            Edges.due(x.merges(0), 1);
            // By MIDDLES 20, 70, 10, and then 20 and of 10, 70, 90 70.
            Edges.due(x.block(1, -1), 2);
            Edges.due(x.block(1, 1), 25);
            Edges.due(x.merges(1), 1);
        }
        x.ties(1);
        line(x, 0, 0, 170, 3);
        line(x, 0, 1, 40, 1);
        line(x, 1, 3, 70, 1);
        // FREE, 20 and 60 are apart, and 70 goes with 10, 90 not.
        x.ties(0);
        Edges.due(x.block(0, -1), 3);
        Edges.due(x.block(0, 0), 4);
        Edges.due(x.block(0, 1), 19);
        line(x, 0, 0, 140, 3);
    }

    private static void merges() {
        Edges.sentence("the first BLOCK (from the front) whose NUMBER is not below the next one's becomes one with that");
        for (int loss = 0; loss <= 1; loss++) {
            Edges.due(Edges.with(40, 41).merges(loss), 0);
            Edges.due(Edges.with(40, 40).merges(loss), 1);
            Edges.due(Edges.with(41, 40).merges(loss), 1);
            Edges.due(Edges.with(7, 7, 7, 7, 7, 7, 7).merges(loss), 6);
            Edges.due(Edges.with(70, 60, 50, 40, 30, 20, 10).merges(loss), 6);
            Edges.due(Edges.with(20, 10, 40, 30, 60, 50, 70).merges(loss), 3);
            Edges.due(Edges.with(20, 10, 40, 30, 60, 50, 70).block(loss, -1), 4);
            Edges.due(Edges.with(20, 10, 40, 30, 60, 50, 70).block(loss, 2), 48);
        }
        Edges.sentence("then anew from the front, till there is none");
        // 50 and 10 are 30, not below 30; with 20 30 behind, they are 110 by 4.
        LatticeGrader x = Edges.with(20, 30, 50, 10, 20, 30, 90);
        Edges.due(x.merges(0), 3);
        Edges.due(x.block(0, 0), 1);
        Edges.due(x.block(0, 1), 30);
        line(x, 0, 1, 55, 2);
        Edges.due(x.block(0, 2), 32);
        // 30, then 20; by MIDDLES 20 of both, and that is not below 20 ahead.
        LatticeGrader y = Edges.with(20, 30, 20);
        Edges.due(y.merges(1), 2);
        Edges.due(y.block(1, 0), 7);
        line(y, 1, 2, 20, 1);
        // The NUMBER of the new BLOCK is one by its WEIGHTS: 29 goes under 30, 31 does not.
        LatticeGrader z = Edges.with(30, 40, 10);
        z.heavy(1, 2);
        Edges.due(z.merges(0), 2);
        z.heavy(1, 3);
        Edges.due(z.merges(0), 1);
        line(z, 0, 1, 65, 2);
        z.heavy(1, 2);
        z.raw(2, 11);
        Edges.due(z.merges(0), 1);
        line(z, 0, 2, 91, 3);
    }

    private static void blocks() {
        Edges.sentence("PAPERS (bits) of the i-th BLOCK (i -1: how many BLOCKS)");
        LatticeGrader x = Edges.with(70, 60, 50, 40, 30, 20, 10);
        for (int loss = 0; loss <= 1; loss++) {
            Edges.due(x.block(loss, -1), 1);
            Edges.due(x.block(loss, 0), 127);
            Edges.due(x.block(loss, 1), -1);
            Edges.due(x.block(loss, -2), -1);
        }
        line(x, 0, 0, 40, 1);
        line(x, 1, 6, 40, 1);
    }

    private static void valuesByMeans() {
        Edges.sentence("by MEANS: MARK and NUMBER of its BLOCK together, less NUMBER of all of its PLACE");
        LatticeGrader x = Edges.with(0, 41, 0);
        x.place(1, 0);
        x.ties(2);
        // MEANS 41 by 2 and 0; of all 41 by 3.
        line(x, 0, 0, -41, 6);
        line(x, 0, 1, 205, 6);
        line(x, 0, 2, 41, 3);
        lineChange(x, 0, 1681, 6);
        // MIDDLES 0 and 0, and 0 of all.
        line(x, 1, 0, 0, 1);
        line(x, 1, 1, 41, 1);
        lineChange(x, 1, 0, 1);
        Edges.due(x.merges(1), 1);
        // MIDDLES 41 and 0, of all three with 41 twice as heavy 41 by half and half 0.
        x.heavy(1, 2);
        line(x, 1, 0, -41, 1);
        line(x, 1, 1, 0, 1);
        line(x, 1, 2, 0, 1);
        lineChange(x, 1, 123, 1);
        // A PLACE that stays by itself keeps its MARKS.
        x.raw(2, 99);
        Edges.due(x.merges(0), 0);
        line(x, 0, 0, 0, 1);
        line(x, 0, 1, 41, 1);
        lineChange(x, 0, 0, 1);
        x.ties(1);
        line(x, 0, 0, 82, 3);
        line(x, 0, 1, 82, 3);
        x.ties(0);
        line(x, 0, 0, 0, 1);
        line(x, 0, 1, 41, 1);
    }

    private static void lineChanges() {
        Edges.sentence("CHANGE: by SQUARE WEIGHT times the square of what VALUE and MARK differ by, added up; by ABSOLUTE ..");
        LatticeGrader x = Edges.with(80, 20);
        lineChange(x, 0, 1800, 1);
        lineChange(x, 1, 60, 1);
        x.heavy(0, 2);
        lineChange(x, 0, 2400, 1);
        lineChange(x, 1, 60, 1);
        x.heavy(1, 9);
        x.heavy(0, 9);
        lineChange(x, 0, 16200, 1);
        lineChange(x, 1, 540, 1);
        x.kind(1, 2, 0);
        // WEIGHTS 9 and 5: 410 by 7, off by 150 by 7 and 270 by 7.
        lineChange(x, 0, 81000, 7);
        lineChange(x, 1, 300, 1);
        Edges.sentence("CHANGE of BLOCKS with unlike WEIGHTS");
        LatticeGrader y = Edges.with(22, 30, 61, 68, 7, 75, 7);
        y.kind(0, 5, 0);
        y.kind(2, 5, 0);
        y.kind(5, 5, 0);
        int[] heavies = {9, 9, 8, 9, 7, 8, 5};
        int[] places = {0, 0, 1, 1, 2, 2, 3};
        for (int p = 0; p < 7; p++) {
            y.heavy(p, heavies[p]);
            y.place(p, places[p]);
        }
        y.ties(2);
        // MEANS of the PLACES 666 by 27, 1588 by 25, 1249 by 23, 7; the last three are one of 2872 by 53.
        Edges.due(y.block(0, 0), 3);
        Edges.due(y.block(0, 1), 124);
        line(y, 0, 2, 61L * 25 * 53 + 2872L * 25 - 1588L * 53, 25 * 53);
        line(y, 0, 6, 2872, 53);
        long[] sums = {1588, 1249, 35};
        long[] weights = {25, 23, 5};
        // Each PLACE: W times the square of 2872 by 53 less S by W; all of it over 53 times 53 times each W.
        long each = 25 * 23 * 5;
        long squares = 0;
        for (int i = 0; i < 3; i++) {
            long apart = 2872 * weights[i] - 53 * sums[i];
            squares += apart * apart * (each / weights[i]);
        }
        long below = 53 * 53 * each;
        long common = gcd(squares, below);
        lineChange(y, 0, squares / common, below / common);
    }

    private static long gcd(long a, long b) {
        return b == 0 ? a : gcd(b, a % b);
    }

    private static void fractions() {
        Edges.sentence("Fractions are in least terms, below the line above 0");
        LatticeGrader x = Edges.with(60, 20, 30, 20, 99, 0);
        x.heavy(2, 2);
        x.rule(0, 1);
        x.rule(2, 3);
        x.rule(4, 5);
        value(x, 0, 0, 40, 1);
        value(x, 0, 2, 80, 3);
        value(x, 2, 2, 25, 1);
        value(x, 2, 4, 99, 2);
        value(x, 1, 4, 0, 1);
        x.raw(4, 0);
        value(x, 0, 4, 0, 1);
        value(x, 2, 5, 0, 1);
        x.heavy(2, 4);
        x.heavy(3, 2);
        value(x, 0, 2, 80, 3);
        likelihood(x, 0, 0, 2, 1, 2);
        likelihood(x, 0, 4, 2, 1, 1);
        Edges.sentence("(0 by 1, if nothing)");
        x.raw(0, 0);
        x.raw(2, 0);
        for (int loss = 0; loss <= 2; loss++) {
            change(x, loss, 0, 1);
            worth(x, loss, 1, 0, 1);
        }
    }

    private static void squares() {
        Edges.sentence("SQUARE: VALUES so that by no RULE LOWER's is above UPPER's, those with the least CHANGE");
        LatticeGrader free = Edges.with(90, 0, 45);
        for (int loss = 0; loss <= 2; loss++) {
            value(free, loss, 0, 90, 1);
            value(free, loss, 1, 0, 1);
        }
        // One below two, and both below one.
        LatticeGrader x = Edges.with(80, 40, 60, 20);
        x.rule(0, 1);
        x.rule(0, 2);
        x.rule(1, 3);
        x.rule(2, 3);
        for (int p = 0; p < 4; p++) {
            value(x, 0, p, 50, 1);
        }
        x.raw(3, 70);
        value(x, 0, 0, 60, 1);
        value(x, 0, 1, 60, 1);
        value(x, 0, 2, 60, 1);
        value(x, 0, 3, 70, 1);
        x.raw(2, 61);
        value(x, 0, 0, 60, 1);
        value(x, 0, 2, 61, 1);
        x.raw(2, 59);
        value(x, 0, 0, 179, 3);
        value(x, 0, 2, 179, 3);
        // Two above one, that is heavy.
        LatticeGrader y = Edges.with(70, 60, 10);
        y.rule(0, 2);
        y.rule(1, 2);
        value(y, 0, 0, 140, 3);
        y.heavy(2, 9);
        value(y, 0, 1, 20, 1);
        y.raw(1, 19);
        value(y, 0, 2, 179, 11);
        y.raw(1, 5);
        value(y, 0, 0, 16, 1);
        value(y, 0, 1, 5, 1);
        // Like MARKS: nothing is to be changed.
        y.raw(0, 10);
        value(y, 0, 0, 10, 1);
        value(y, 0, 2, 10, 1);
        LatticeGrader all = Edges.with(99, 0, 0, 0, 0, 0, 0);
        for (int p = 0; p < 6; p++) {
            all.rule(p, p + 1);
        }
        for (int p = 0; p < 7; p++) {
            value(all, 0, p, 99, 7);
        }
    }

    private static void absolutes() {
        Edges.sentence("by ABSOLUTE of several those that are least for each PAPER");
        LatticeGrader x = Edges.with(80, 20);
        x.rule(0, 1);
        value(x, 1, 0, 20, 1);
        value(x, 1, 1, 20, 1);
        x.heavy(0, 2);
        value(x, 1, 0, 80, 1);
        value(x, 1, 1, 80, 1);
        x.heavy(1, 2);
        value(x, 1, 0, 20, 1);
        x.heavy(1, 3);
        value(x, 1, 1, 20, 1);
        // Both above 2: with 10, or each with its own; least is 10 for all.
        LatticeGrader y = Edges.with(70, 60, 10);
        y.rule(0, 2);
        y.rule(1, 2);
        value(y, 1, 0, 60, 1);
        value(y, 1, 1, 60, 1);
        value(y, 1, 2, 60, 1);
        change(y, 1, 60, 1);
        y.heavy(2, 2);
        value(y, 1, 0, 10, 1);
        value(y, 1, 2, 10, 1);
        change(y, 1, 110, 1);
        y.heavy(2, 3);
        value(y, 1, 1, 10, 1);
        // Of a way of four all between 20 and 30 are as good: 20 is the least.
        LatticeGrader way = Edges.with(40, 30, 20, 10);
        way.rule(0, 1);
        way.rule(1, 2);
        way.rule(2, 3);
        for (int p = 0; p < 4; p++) {
            value(way, 1, p, 20, 1);
        }
        change(way, 1, 40, 1);
        // Like MARKS in twos: each of the two keeps to itself.
        LatticeGrader twos = Edges.with(50, 10, 50, 90);
        twos.rule(0, 1);
        twos.rule(1, 2);
        twos.rule(2, 3);
        value(twos, 1, 0, 10, 1);
        value(twos, 1, 1, 10, 1);
        value(twos, 1, 2, 50, 1);
        value(twos, 1, 3, 90, 1);
    }

    private static void worsts() {
        Edges.sentence("WORST: half of two together: the greatest MARK of it and of those UNDER it (by all RULES), the least ..");
        LatticeGrader x = Edges.with(90, 95, 40);
        x.rule(0, 1);
        x.rule(1, 2);
        value(x, 2, 0, 65, 1);
        value(x, 2, 1, 135, 2);
        value(x, 2, 2, 135, 2);
        change(x, 2, 55, 2);
        // WEIGHTS are nothing to it.
        x.heavy(0, 9);
        x.heavy(2, 9);
        value(x, 2, 0, 65, 1);
        value(x, 2, 2, 135, 2);
        // Itself the greatest, itself the least.
        LatticeGrader own = Edges.with(10, 50, 90);
        own.rule(0, 1);
        own.rule(1, 2);
        value(own, 2, 0, 10, 1);
        value(own, 2, 1, 50, 1);
        value(own, 2, 2, 90, 1);
        own.raw(0, 51);
        value(own, 2, 0, 101, 2);
        value(own, 2, 1, 101, 2);
        own.raw(2, 50);
        value(own, 2, 1, 101, 2);
        own.raw(2, 48);
        value(own, 2, 0, 99, 2);
        value(own, 2, 1, 99, 2);
        value(own, 2, 2, 99, 2);
        // By many RULES, from the first to the last.
        LatticeGrader far = Edges.with(99, 99, 99, 99, 99, 99, 0);
        for (int p = 0; p < 6; p++) {
            far.rule(p, p + 1);
        }
        for (int p = 0; p < 7; p++) {
            value(far, 2, p, 99, 2);
        }
        far.free(2);
        value(far, 2, 2, 99, 1);
        value(far, 2, 3, 99, 2);
    }

    private static void noRuleIsBroken() {
        Edges.sentence("VALUES so that by no RULE LOWER's is above UPPER's");
        int[][] raws = {{99, 88, 77, 66, 55, 44, 33}, {1, 99, 2, 98, 3, 97, 4}, {50, 50, 40, 40, 60, 60, 50}, {0, 0, 99, 0, 0, 99, 0}};
        for (int[] some : raws) {
            LatticeGrader x = Edges.made(Edges::full);
            for (int p = 0; p < 7; p++) {
                x.raw(p, some[p]);
                x.heavy(p, 1 + p * 5 % 9);
            }
            for (int loss = 0; loss <= 2; loss++) {
                for (int r = 0; r < 12; r++) {
                    int lower = x.ruleOf(r, 0);
                    int upper = x.ruleOf(r, 1);
                    long left = x.value(loss, lower, 0) * x.value(loss, upper, 1);
                    long right = x.value(loss, upper, 0) * x.value(loss, lower, 1);
                    Edges.due("rule " + r, left > right ? 1 : 0, 0);
                }
            }
        }
    }

    private static void gradesOfValues() {
        Edges.sentence("GRADE of VALUE by RULES: how many LIMITS are not above it");
        LatticeGrader x = Edges.with(81, 20);
        x.rule(0, 1);
        Edges.due(x.grade(0, 0), 0);
        x.limit(20);
        x.limit(49);
        x.limit(50);
        x.limit(51);
        x.limit(99);
        // 101 by 2; 20; 101 by 2.
        Edges.due(x.grade(0, 0), 3);
        Edges.due(x.grade(1, 0), 1);
        Edges.due(x.grade(2, 1), 3);
        x.raw(0, 80);
        Edges.due(x.grade(0, 1), 3);
        Edges.due(x.grade(2, 1), 3);
        x.raw(0, 79);
        Edges.due(x.grade(0, 1), 2);
        x.raw(1, 19);
        Edges.due(x.grade(1, 0), 0);
        x.raw(1, 99);
        Edges.due(x.grade(0, 1), 5);
        x.raw(1, 98);
        Edges.due(x.grade(0, 1), 4);
        x.limits();
        Edges.due(x.grade(0, 1), 0);
    }

    private static void changes() {
        Edges.sentence("CHANGE by RULES (told likewise); by WORST the most by which VALUE and MARK of one differ");
        LatticeGrader x = Edges.with(80, 20, 60, 50);
        x.rule(0, 1);
        x.rule(2, 3);
        change(x, 0, 1850, 1);
        change(x, 1, 70, 1);
        change(x, 2, 30, 1);
        x.heavy(2, 9);
        change(x, 0, 1890, 1);
        change(x, 1, 70, 1);
        change(x, 2, 30, 1);
        x.heavy(3, 9);
        change(x, 0, 2250, 1);
        change(x, 1, 150, 1);
        x.raw(0, 0);
        change(x, 2, 5, 1);
        x.raw(2, 51);
        change(x, 2, 1, 2);
        change(x, 1, 9, 1);
        change(x, 0, 9, 2);
        // The PAPER that differs most may be below its MARK or above it.
        LatticeGrader y = Edges.with(90, 10, 11);
        y.rule(0, 1);
        y.rule(0, 2);
        change(y, 2, 40, 1);
        LatticeGrader z = Edges.with(90, 89, 10);
        z.rule(0, 2);
        z.rule(1, 2);
        change(z, 2, 40, 1);
    }

    private static void pools() {
        Edges.sentence("POOL of a PAPER: those (bits) to whom one comes from it by RULES (either way), all of the same VALUE; it, too");
        LatticeGrader alone = Edges.with(50, 50, 50, 50, 50, 50, 50);
        for (int loss = 0; loss <= 2; loss++) {
            for (int p = 0; p < 7; p++) {
                Edges.due(alone.pool(loss, p), 1 << p);
            }
        }
        int[] lowers = {5, 3, 1, 6, 4, 2};
        int[] uppers = {6, 4, 2, 0, 5, 3};
        for (int r = 0; r < 6; r++) {
            alone.rule(lowers[r], uppers[r]);
        }
        for (int loss = 0; loss <= 2; loss++) {
            for (int p = 0; p < 7; p++) {
                Edges.due(alone.pool(loss, p), 127);
            }
        }
        alone.raw(4, 51);
        alone.raw(5, 52);
        alone.raw(6, 52);
        alone.raw(0, 52);
        Edges.due(alone.pool(0, 1), 14);
        Edges.due(alone.pool(0, 4), 16);
        Edges.due(alone.pool(0, 0), 97);
        // Up by one RULE and down by the next; by way of another VALUE one does not come.
        LatticeGrader x = Edges.with(30, 30, 30);
        x.rule(0, 1);
        x.rule(2, 1);
        Edges.due(x.pool(0, 0), 7);
        x.raw(1, 50);
        for (int loss = 0; loss <= 2; loss++) {
            Edges.due(x.pool(loss, 0), 1);
            Edges.due(x.pool(loss, 1), 2);
            Edges.due(x.pool(loss, 2), 4);
        }
        LatticeGrader down = Edges.with(30, 30, 30);
        down.rule(1, 0);
        down.rule(1, 2);
        Edges.due(down.pool(1, 0), 7);
        down.raw(1, 10);
        Edges.due(down.pool(1, 2), 4);
        // 50 by 2 and 25 are the same, 25 by 2 and 25 are not.
        LatticeGrader half = Edges.with(40, 10, 25);
        half.rule(0, 1);
        half.rule(1, 2);
        Edges.due(half.pool(0, 0), 7);
        half.raw(0, 15);
        Edges.due(half.pool(0, 0), 3);
        Edges.due(half.pool(0, 2), 4);
    }

    private static void binds() {
        Edges.sentence("A RULE BINDS, if VALUES of both are the same");
        LatticeGrader x = Edges.made(Edges::full);
        for (int p = 0; p < 7; p++) {
            x.raw(p, 7);
        }
        for (int loss = 0; loss <= 2; loss++) {
            Edges.due(x.binds(loss), 4095);
        }
        // 6 goes up: RULES 5 (0 to 6) and 10 (1 to 6) do not bind.
        x.raw(6, 8);
        for (int loss = 0; loss <= 2; loss++) {
            Edges.due(x.binds(loss), 4095 - 32 - 1024);
        }
        for (int p = 0; p < 7; p++) {
            x.raw(p, 10 * p);
        }
        for (int loss = 0; loss <= 2; loss++) {
            Edges.due(x.binds(loss), 0);
        }
        Edges.due(Edges.with(5, 5).binds(0), 0);
        LatticeGrader y = Edges.with(40, 10, 25);
        y.rule(0, 1);
        y.rule(1, 2);
        Edges.due(y.binds(0), 3);
        Edges.due(y.binds(1), 1);
        Edges.due(y.binds(2), 1);
    }

    private static void worths() {
        Edges.sentence("WORTH of a RULE: how much less CHANGE is, were it not there");
        LatticeGrader x = Edges.with(90, 95, 40);
        x.rule(0, 1);
        x.rule(1, 2);
        // 225 by 3 each: 15, 20, 35; without the first 135 by 2: 1512 and a half; without the second nothing.
        worth(x, 0, 0, 675, 2);
        worth(x, 0, 1, 1850, 1);
        worth(x, 2, 0, 0, 1);
        worth(x, 2, 1, 55, 2);
        // 95 down and 40 up to 90 is as good as 90 down to 40: 55, with the least for each 50 and 55 together are more.
        worth(x, 1, 0, 0, 1);
        worth(x, 1, 1, 55, 1);
        // Nothing is broken.
        LatticeGrader fine = Edges.with(10, 20);
        fine.rule(0, 1);
        for (int loss = 0; loss <= 2; loss++) {
            worth(fine, loss, 0, 0, 1);
        }
        // One way stays.
        LatticeGrader way = Edges.with(80, 50, 20);
        way.rule(0, 1);
        way.rule(1, 2);
        way.rule(0, 2);
        for (int loss = 0; loss <= 2; loss++) {
            worth(way, loss, 2, 0, 1);
        }
        Edges.sentence("WORTH of the last of 12 RULES");
        LatticeGrader full = Edges.made(Edges::full);
        for (int p = 0; p < 7; p++) {
            full.raw(p, 50);
        }
        full.raw(2, 71);
        worth(full, 0, 11, 441, 2);
        worth(full, 1, 11, 21, 1);
        worth(full, 2, 11, 21, 2);
        worth(full, 0, 10, 0, 1);
        Edges.due(full.dearest(0), 11);
        Edges.due(full.dearest(1), 11);
        Edges.due(full.dearest(2), 11);
    }

    private static void dearest() {
        Edges.sentence("DEAREST: the RULE with most WORTH, of several the first; -9: none has any");
        LatticeGrader x = Edges.with(80, 20, 80, 20, 81, 20);
        for (int loss = 0; loss <= 2; loss++) {
            Edges.due(x.dearest(loss), -9);
        }
        x.rule(0, 1);
        x.rule(2, 3);
        Edges.due(x.dearest(0), 0);
        Edges.due(x.dearest(1), 0);
        // By WORST the other one costs as much: neither has WORTH.
        Edges.due(x.dearest(2), -9);
        x.rule(4, 5);
        for (int loss = 0; loss <= 2; loss++) {
            Edges.due(x.dearest(loss), 2);
        }
        x.raw(4, 79);
        Edges.due(x.dearest(0), 0);
        x.free(0);
        Edges.due(x.dearest(0), 0);
        Edges.due(x.dearest(2), 0);
        x.raw(2, 20);
        Edges.due(x.dearest(0), 1);
        x.raw(4, 20);
        for (int loss = 0; loss <= 2; loss++) {
            Edges.due(x.dearest(loss), -9);
        }
        // Two ways from 80 to 20: without any one RULE one stays.
        LatticeGrader ways = Edges.with(80, 50, 50, 20);
        ways.rule(0, 1);
        ways.rule(1, 3);
        ways.rule(0, 2);
        ways.rule(2, 3);
        Edges.due(ways.dearest(2), -9);
        change(ways, 2, 30, 1);
    }

    private static void needsAlone(int kind, int figure, int limit, int due) {
        LatticeGrader x = Edges.with(33);
        x.kind(0, kind, figure);
        x.limit(limit);
        for (int loss = 0; loss <= 2; loss++) {
            Edges.due("kind " + kind + " figure " + figure + " limit " + limit, x.needs(loss, 0, 1), due);
            Edges.due(x.needs(loss, 0, 0), 0);
            Edges.due(x.needs(loss, 0, 2), -9);
            Edges.due(x.needs(loss, 0, 5), -9);
        }
        Edges.due(x.of(0, 0), 33);
    }

    private static void needsByKinds() {
        Edges.sentence("NEEDS: the least RAW (0 .. 99) of a PAPER with which GRADE of its VALUE by RULES is g or more; -9");
        needsAlone(0, 0, 1, 1);
        needsAlone(0, 9, 99, 99);
        needsAlone(0, 0, 50, 50);
        needsAlone(1, 9, 9, 0);
        needsAlone(1, 9, 10, 1);
        needsAlone(1, 9, 99, 90);
        needsAlone(2, 0, 99, 99);
        needsAlone(2, 1, 96, 99);
        needsAlone(2, 1, 97, -9);
        needsAlone(2, 9, 1, 28);
        needsAlone(3, 0, 50, 50);
        needsAlone(3, 0, 51, -9);
        needsAlone(3, 9, 50, 77);
        needsAlone(4, 0, 69, 69);
        needsAlone(4, 0, 70, 70);
        needsAlone(4, 0, 80, 70);
        needsAlone(4, 0, 81, 71);
        needsAlone(4, 9, 78, 69);
        needsAlone(4, 9, 79, 70);
        needsAlone(4, 9, 89, 70);
        needsAlone(4, 9, 99, 80);
        needsAlone(5, 9, 99, 99);
        Edges.sentence("NEEDS of each number of LIMITS");
        LatticeGrader x = Edges.with(50);
        for (int limits = 0; limits <= 5; limits++) {
            for (int g = 0; g <= 5; g++) {
                Edges.due(x.needs(0, 0, g), g > limits ? -9 : g == 0 ? 0 : 19 * g);
            }
            x.limit(19 * limits + 19);
        }
    }

    private static void needsByRules() {
        Edges.sentence("NEEDS by RULES: every RAW of the least to the most");
        for (int limit = 1; limit <= 99; limit++) {
            LatticeGrader x = Edges.with(80, 5);
            x.rule(0, 1);
            x.limit(limit);
            // The UPPER one: 80 and it by half, if it is below; 5 and it by half of the LOWER one.
            Edges.due(x.needs(0, 1, 1), limit <= 40 ? 0 : limit <= 80 ? 2 * limit - 80 : limit);
            Edges.due(x.needs(1, 1, 1), limit);
            Edges.due(x.needs(2, 1, 1), limit <= 40 ? 0 : limit <= 80 ? 2 * limit - 80 : limit);
            Edges.due(x.needs(0, 0, 1), limit <= 5 ? limit : 2 * limit - 5 <= 99 ? 2 * limit - 5 : -9);
            Edges.due(x.needs(1, 0, 1), limit <= 5 ? limit : -9);
            Edges.due(x.of(1, 0), 5);
        }
        Edges.sentence("NEEDS 0, if others are enough; -9, if 99 is not");
        LatticeGrader y = Edges.with(98, 0);
        y.rule(0, 1);
        y.limit(49);
        y.limit(50);
        Edges.due(y.needs(0, 1, 1), 0);
        Edges.due(y.needs(0, 1, 2), 2);
        Edges.due(y.needs(0, 0, 1), 98);
        Edges.due(y.needs(0, 0, 2), -9);
        y.raw(1, 1);
        Edges.due(y.needs(0, 0, 2), 99);
    }

    private static void likely() {
        Edges.sentence("LIKELY: each of RULES 0 .. 4 (as many as there are ..), by itself, is not there with odds 1 in t (2 .. 20)");
        LatticeGrader x = Edges.with(90, 10, 10, 10, 10, 10, 10);
        for (int rules = 0; rules <= 5; rules++) {
            for (int loss = 0; loss <= 2; loss++) {
                likelihood(x, loss, 0, 2, 1, 1 << rules);
                likelihood(x, loss, 0, 20, 1, power(20, rules));
                likelihood(x, loss, 0, 3, 1, power(3, rules));
                likelihood(x, loss, 6, 20, 1, 1);
            }
            x.rule(0, rules + 1);
        }
        Edges.sentence("LIKELY of two RULES, by itself each");
        LatticeGrader y = Edges.with(80, 20, 50);
        y.rule(0, 1);
        y.rule(0, 2);
        // 2 stays at 50 with the first (50 of 80 and 20), with none, and with the first alone; not with the second alone.
        likelihood(y, 0, 2, 2, 3, 4);
        likelihood(y, 0, 2, 20, 381, 400);
        likelihood(y, 0, 2, 3, 7, 9);
        likelihood(y, 0, 1, 20, 1, 20);
        likelihood(y, 0, 0, 20, 1, 400);
        likelihood(y, 2, 2, 2, 1, 2);
        // A RULE that is not broken moves nothing.
        LatticeGrader z = Edges.with(80, 20, 10, 60);
        z.rule(0, 1);
        z.rule(2, 3);
        likelihood(z, 0, 0, 10, 1, 10);
        likelihood(z, 0, 2, 10, 1, 1);
        // One pulls 50 up as much as the other one pulls it down: with both or with none it stays; in least terms.
        LatticeGrader both = Edges.with(50, 20, 80);
        both.rule(0, 1);
        both.rule(2, 0);
        for (int loss = 0; loss <= 2; loss += 2) {
            likelihood(both, loss, 0, 2, 1, 2);
            likelihood(both, loss, 0, 3, 5, 9);
            likelihood(both, loss, 0, 4, 5, 8);
            likelihood(both, loss, 0, 19, 325, 361);
            likelihood(both, loss, 0, 20, 181, 200);
        }
    }

    private static long power(long t, int times) {
        long all = 1;
        for (int i = 0; i < times; i++) {
            all *= t;
        }
        return all;
    }

    private static void likelyOfLaterRules() {
        Edges.sentence("later ones always are there");
        LatticeGrader x = Edges.with(1, 2, 3, 4, 5, 90, 6);
        for (int l = 0; l < 5; l++) {
            x.rule(l, l + 1);
        }
        for (int loss = 0; loss <= 2; loss++) {
            likelihood(x, loss, 5, 20, 1, 1);
        }
        x.rule(5, 6);
        for (int loss = 0; loss <= 2; loss++) {
            likelihood(x, loss, 5, 20, 0, 1);
            // By ABSOLUTE both are at 6.
            likelihood(x, loss, 6, 2, loss == 1 ? 1 : 0, 1);
            likelihood(x, loss, 0, 2, 1, 1);
        }
        // One RULE is taken away: the sixth is the fifth then.
        x.free(4);
        for (int loss = 0; loss <= 2; loss++) {
            likelihood(x, loss, 5, 20, 1, 20);
            likelihood(x, loss, 6, 2, 1, loss == 1 ? 1 : 2);
        }
        Edges.sentence("the fifth may not be there, the sixth is");
        LatticeGrader y = Edges.with(90, 80, 70, 60, 10, 20, 0);
        y.rule(0, 6);
        y.rule(1, 6);
        y.rule(2, 6);
        y.rule(3, 6);
        y.rule(5, 4);
        for (int loss = 0; loss <= 2; loss++) {
            likelihood(y, loss, 5, 7, 1, 7);
            // By ABSOLUTE one of the four there does not move it.
            likelihood(y, loss, 6, 7, loss == 1 ? 25 : 1, 2401);
        }
        y.rule(4, 6);
        for (int loss = 0; loss <= 2; loss++) {
            // By ABSOLUTE the sixth alone does not, but with any other one.
            likelihood(y, loss, 6, 7, loss == 1 ? 1 : 0, loss == 1 ? 16807 : 1);
        }
        Edges.sentence("RULES 0 .. 4 (as many as there are), though there are fewer PAPERS");
        LatticeGrader four = Edges.with(1, 20, 30, 5);
        four.rule(0, 1);
        four.rule(0, 2);
        four.rule(1, 2);
        four.rule(0, 3);
        four.rule(2, 3);
        for (int loss = 0; loss <= 2; loss++) {
            likelihood(four, loss, 2, 20, 1, 20);
            likelihood(four, loss, 0, 20, 1, 1);
        }
        // All 12 there: of 11 the later ones.
        LatticeGrader full = Edges.made(Edges::full);
        likelihood(full, 0, 2, 20, 0, 1);
        likelihood(full, 0, 1, 2, 0, 1);
    }

    private static void said() {
        Edges.sentence("SAID of a PAPER: its number, \":\", MARK, then \"=\", if VALUE is MARK, else \"+\" or \"-\" and by how much");
        LatticeGrader x = Edges.with(0, 99, 7, 70, 0, 0, 5);
        x.kind(3, 4, 9);
        x.raw(3, 99);
        Edges.dueText(Edges.said(x, 0), "0:0= A");
        Edges.dueText(Edges.said(x, 1), "1:99= A");
        Edges.dueText(Edges.said(x, 2), "2:7= A");
        Edges.dueText(Edges.said(x, 3), "3:118= A");
        Edges.dueText(Edges.said(x, 6), "6:5= A");
        Edges.sentence("(a whole number, or above \"/\" below the line)");
        LatticeGrader y = Edges.with(81, 20, 51, 49, 2, 1);
        y.rule(0, 1);
        y.rule(2, 3);
        y.rule(4, 5);
        Edges.dueText(Edges.said(y, 0), "0:81-61/2 A with 1");
        Edges.dueText(Edges.said(y, 1), "1:20+61/2 A with 0");
        Edges.dueText(Edges.said(y, 2), "2:51-1 A with 3");
        Edges.dueText(Edges.said(y, 3), "3:49+1 A with 2");
        Edges.dueText(Edges.said(y, 4), "4:2-1/2 A with 5");
        y.heavy(5, 9);
        Edges.dueText(Edges.said(y, 4), "4:2-9/10 A with 5");
        Edges.dueText(Edges.said(y, 5), "5:1+1/10 A with 4");
        Edges.sentence("if others are in its POOL, \" with \" and their numbers, \",\" between");
        LatticeGrader all = Edges.with(99, 0, 0, 0, 0, 0, 0);
        for (int p = 0; p < 6; p++) {
            all.rule(p, p + 1);
        }
        Edges.dueText(Edges.said(all, 0), "0:99-594/7 A with 1,2,3,4,5,6");
        Edges.dueText(Edges.said(all, 3), "3:0+99/7 A with 0,1,2,4,5,6");
        Edges.dueText(Edges.said(all, 6), "6:0+99/7 A with 0,1,2,3,4,5");
        all.raw(0, 0);
        Edges.dueText(Edges.said(all, 6), "6:0= A with 0,1,2,3,4,5");
        Edges.sentence("Letter i of what is SAID of a PAPER (i -1: how many)");
        String text = "6:0= A with 0,1,2,3,4,5";
        Edges.due(all.says(6, -1), text.length());
        for (int i = 0; i < text.length(); i++) {
            Edges.due(all.says(6, i), text.charAt(i));
        }
        Edges.due(all.says(6, text.length()), -1);
        Edges.due(all.says(6, -2), -1);
    }

    private static void saidGrades() {
        Edges.sentence("a blank, GRADE of VALUE as a letter (A 0, B 1 ..)");
        LatticeGrader x = Edges.with(80, 20);
        x.rule(0, 1);
        String[] due = {"0:80-30 A with 1", "0:80-30 B with 1", "0:80-30 C with 1", "0:80-30 D with 1", "0:80-30 E with 1",
            "0:80-30 F with 1"};
        for (int limit = 46; limit <= 51; limit++) {
            Edges.dueText(Edges.said(x, 0), due[limit - 46]);
            x.limit(limit);
        }
        // GRADE of VALUE, not of MARK: 51 is above 50, 50 is not.
        x.limits();
        x.limit(50);
        x.limit(51);
        Edges.dueText(Edges.said(x, 0), "0:80-30 B with 1");
        Edges.dueText(Edges.said(x, 1), "1:20+30 B with 0");
        x.raw(1, 22);
        Edges.dueText(Edges.said(x, 1), "1:22+29 C with 0");
    }
}
