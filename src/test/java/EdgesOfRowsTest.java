import java.math.BigInteger;

/** The document's edges, sentence by sentence: told ROWS, LOTS, SHELVES, THE IMAGE, count. */
public final class EdgesOfRowsTest {
    public static void main(String[] args) {
        rows();
        whatIsOfNone();
        whatIsByKinds();
        whatIsByFigures();
        whatIsOfOthers();
        draws();
        lots();
        lotsOfPools();
        lotsFromNow();
        shelves();
        shelvesApart();
        longs();
        laid();
        laidInPart();
        laidByLosses();
        judged();
        judgedShort();
        judgedOnLong();
        images();
        imagesOfNothing();
        imagesKeep();
        imagesLeave();
        counts();
        Edges.end();
    }

    private static void rows() {
        Edges.sentence("A number more of the ROW (0 .. 999): how many; (numbers 0 .. 999; 10 at most)");
        LatticeGrader x = new LatticeGrader();
        int[] numbers = {0, 999, 1, 998, 500, 0, 0, 999, 999, 7};
        for (int i = 0; i < 10; i++) {
            Edges.due(x.count(5), i);
            Edges.due(x.row(-1), -4);
            Edges.due(x.row(1000), -6);
            Edges.due(x.row(numbers[i]), i + 1);
        }
        Edges.due(x.row(0), -6);
        Edges.due(x.row(1000), -6);
        Edges.due(x.row(-1), -4);
        Edges.due(x.count(5), 10);
        Edges.sentence("The ROW has none then: how many it had");
        Edges.due(x.clear(), 10);
        Edges.due(x.count(5), 0);
        Edges.due(x.clear(), 0);
        Edges.due(x.row(999), 1);
        Edges.due(x.clear(), 1);
    }

    private static void whatIs(LatticeGrader x, int kinds, int figures) {
        Edges.due("kinds", x.whatIs(0, 0), kinds);
        Edges.due("figures", x.whatIs(0, 1), figures);
    }

    private static void whatIsOfNone() {
        Edges.sentence("(as many as it tells; of none all is so)");
        LatticeGrader x = Edges.with(5);
        for (int kind = 0; kind <= 5; kind++) {
            x.kind(0, kind, 9 - kind);
            whatIs(x, 63, 1023);
        }
        x.row(999);
        whatIs(x, 0, 0);
        x.clear();
        whatIs(x, 63, 1023);
        Edges.sentence("by the ROW (it stays)");
        x.row(0);
        x.whatIs(0, 0);
        x.whatIs(0, 1);
        Edges.due(x.count(5), 1);
        Edges.due(x.of(0, 0), 5);
        Edges.due(x.of(0, 1), 5);
        Edges.due(x.of(0, 2), 4);
    }

    private static void told(LatticeGrader x, int... numbers) {
        x.clear();
        for (int number : numbers) {
            x.row(number);
        }
    }

    private static void whatIsByKinds() {
        Edges.sentence("a ROW tells MARK, were RAW 0, 10, 20 ..: KINDS (bits) by which, FIGURE as it is, all of it is so");
        LatticeGrader x = Edges.with(77);
        // With FIGURE 0 all are alike but for RESITS above 50 and BONUS ones from 70 on.
        told(x, 0, 10, 20, 30, 40, 50);
        whatIs(x, 63, 1023);
        told(x, 0, 10, 20, 30, 40, 50, 60);
        whatIs(x, 63 - 8, 1023);
        told(x, 0, 10, 20, 30, 40, 50, 50);
        whatIs(x, 8, 0);
        told(x, 0, 10, 20, 30, 40, 50, 60, 70);
        whatIs(x, 63 - 8 - 16, 1023);
        told(x, 0, 10, 20, 30, 40, 50, 60, 80);
        whatIs(x, 16, 0);
        told(x, 0, 10, 20, 30, 40, 50, 60, 80, 90, 100);
        whatIs(x, 16, 0);
        told(x, 0, 10, 20, 30, 40, 50, 60, 70, 80, 90);
        whatIs(x, 63 - 8 - 16, 1023);
        told(x, 0, 10, 20, 30, 40, 50, 60, 70, 80, 91);
        whatIs(x, 0, 0);
        told(x, 10);
        whatIs(x, 0, 0);
        // FIGURE as it is.
        x.kind(0, 0, 9);
        told(x, 9);
        whatIs(x, 2 + 16, 0);
        told(x, 0);
        whatIs(x, 1 + 4 + 8 + 32, 1023);
        told(x, 0, 0, 0);
        whatIs(x, 4 + 8, 0);
        told(x, 0, 0, 0, 3);
        whatIs(x, 4 + 8, 0);
        told(x, 0, 0, 0, 3, 13, 23, 33, 43, 50);
        whatIs(x, 8, 0);
        told(x, 0, 0, 0, 3, 13, 23, 33, 43, 53);
        whatIs(x, 4, 0);
    }

    private static void whatIsByFigures() {
        Edges.sentence("FIGURES (bits 0 .. 9) by which, KIND as it is");
        LatticeGrader x = Edges.with(12);
        x.kind(0, 1, 4);
        for (int figure = 0; figure <= 9; figure++) {
            told(x, figure, figure + 10);
            whatIs(x, figure == 4 ? 2 + 16 : figure == 0 ? 1 + 32 : 0, 1 << figure);
        }
        told(x, 10);
        whatIs(x, 0, 0);
        x.kind(0, 4, 9);
        told(x, 9, 19, 29, 39, 49, 59, 69, 89, 99, 109);
        whatIs(x, 16, 512);
        x.kind(0, 2, 1);
        told(x, 0, 0);
        // 10 is 0 with FIGURES from 4 on.
        whatIs(x, 0, 1024 - 16);
        told(x, 0, 7);
        whatIs(x, 4 + 8, 2);
        told(x, 0, 0, 0, 0);
        whatIs(x, 0, 0);
        x.kind(0, 3, 0);
        told(x, 0, 10, 20, 30, 40, 50, 50, 50, 50, 50);
        whatIs(x, 8, 1);
        told(x, 0, 0, 0, 3, 13, 23, 33, 43, 50, 50);
        whatIs(x, 0, 512);
        x.kind(0, 5, 3);
        told(x, 0, 10);
        whatIs(x, 1 + 32, 1023);
        told(x, 3, 13);
        whatIs(x, 2 + 16, 0);
    }

    private static void whatIsOfOthers() {
        Edges.sentence("WHAT KIND of a PAPER: of each its own");
        LatticeGrader x = Edges.with(1, 2, 3, 4, 5, 6, 7);
        for (int p = 0; p < 7; p++) {
            x.kind(p, p % 6, p + 1);
        }
        for (int p = 0; p < 7; p++) {
            // As CURVED or BONUS, with the FIGURE of this PAPER alone.
            told(x, p + 1, p + 11);
            for (int q = 0; q < 7; q++) {
                int figures = q % 6 == 1 || q % 6 == 4 ? 1 << p + 1 : 0;
                Edges.due("kinds of " + q, x.whatIs(q, 0), p == q ? 2 + 16 : 0);
                Edges.due("figures of " + q, x.whatIs(q, 1), figures);
            }
        }
    }

    // ---- lots

    private static int next(int z) {
        BigInteger all = BigInteger.valueOf(z).multiply(BigInteger.valueOf(1664525)).add(BigInteger.valueOf(1013904223));
        return all.intValue();
    }

    private static int draw(int z) {
        return (int) ((z < 0 ? z + 2147483648L : z) / 256 % 100);
    }

    /** Seeds of which the first DRAWS are with and without a sign, near the ends of the ints too. */
    private static final int[] SEEDS = {0, 1, -1, 7, 99, 12345, -12345, Edges.MIN, Edges.MAX, Edges.MIN + 1, 1 << 30, 77};

    private static void draws() {
        Edges.sentence("A DRAW below m: z becomes z times 1664525 and 1013904223 (an int); (z without its sign's bit by 256, cut) modulo m");
        // From 0 z is 1013904223: 3960563 by 256, 63 below 100; then 1196435762: 4673577, 77; 63 is not above 77.
        LatticeGrader x = Edges.with(0, 0);
        x.rule(0, 1);
        Edges.due(next(0), 1013904223);
        Edges.due(draw(next(0)), 63);
        Edges.due(next(next(0)), 1196435762);
        Edges.due(draw(next(next(0))), 77);
        Edges.due(x.lots(1, 0, 0), 0);
        x.free(0);
        x.rule(1, 0);
        Edges.due(x.lots(1, 0, 0), 1);
        Edges.due(x.lots(1, 0, 1), 2);
        // z with its sign: -778868246 without it is 1368615402, by 256 5346153: 53.
        Edges.due(draw(-778868246), 53);
        Edges.due(draw(-1), 7);
        Edges.due(draw(Edges.MIN), 0);
        Edges.sentence("DRAWS of each PAPER, by numbers, from every seed");
        for (int seed : SEEDS) {
            for (int figure = 0; figure <= 9; figure++) {
                LatticeGrader y = Edges.with(0, 0);
                y.rule(0, 1);
                y.kind(1, 1, figure);
                int first = draw(next(seed));
                int second = draw(next(next(seed)));
                Edges.due(seed + " " + figure, y.lots(1, seed, 0), first > second + figure ? 1 : 0);
                Edges.due(seed + " " + figure, y.lots(1, seed, 1), first >= second + figure ? 2 : 0);
            }
        }
    }

    private static void lots() {
        Edges.sentence("LOTS with a seed z: n times (1 .. 20) .. PAIRS, of all; z goes on from one to the next");
        LatticeGrader x = Edges.with(1, 2, 3, 4, 5, 6, 7);
        for (int p = 0; p < 6; p++) {
            x.rule(p, p + 1);
        }
        for (int seed : SEEDS) {
            int z = seed;
            int all = 0;
            for (int n = 1; n <= 20; n++) {
                int[] raws = new int[7];
                for (int p = 0; p < 7; p++) {
                    z = next(z);
                    raws[p] = draw(z);
                    for (int q = 0; q < p; q++) {
                        all += raws[q] > raws[p] ? 1 : 0;
                    }
                }
                if (n == 1 || n >= 19) {
                    Edges.due(seed + " " + n, x.lots(n, seed, 0), all);
                }
            }
        }
        Edges.sentence("LOTS of no PAPERS, of one, of no RULES");
        LatticeGrader none = new LatticeGrader();
        for (int what = 0; what <= 1; what++) {
            Edges.due(none.lots(1, 5, what), 0);
            Edges.due(none.lots(20, Edges.MIN, what), 0);
            Edges.due(Edges.with(5).lots(20, 5, what), 0);
            Edges.due(Edges.with(5, 5, 5, 5, 5, 5, 5).lots(20, 5, what), 0);
        }
    }

    private static void lotsOfPools() {
        Edges.sentence("PAPERS with others in their POOL (by SQUARE, by all RULES), of all");
        // Three, the one in the middle above both: 0, 2 or 3 are pooled.
        LatticeGrader x = Edges.with(0, 0, 0);
        x.rule(0, 1);
        x.rule(2, 1);
        for (int seed : SEEDS) {
            int z = seed;
            int all = 0;
            for (int n = 1; n <= 20; n++) {
                int first = next(z);
                int second = next(first);
                z = next(second);
                all += pooled(draw(first), draw(second), draw(z));
                if (n == 1 || n == 20) {
                    Edges.due(seed + " " + n, x.lots(n, seed, 1), all);
                }
            }
        }
        Edges.sentence("LOTS as of the PAPERS with these RAWS");
        LatticeGrader y = Edges.made(Edges::full);
        for (int seed : SEEDS) {
            int z = seed;
            for (int p = 0; p < 7; p++) {
                z = next(z);
                y.raw(p, draw(z));
            }
            int pooled = 0;
            for (int p = 0; p < 7; p++) {
                pooled += y.pool(0, p) != 1 << p ? 1 : 0;
            }
            Edges.due("pooled of " + seed, y.lots(1, seed, 1), pooled);
            Edges.due("pairs of " + seed, y.lots(1, seed, 0), y.pairs(0));
        }
    }

    /** How many of two below one, with these MARKS, are pooled: by the least mean of those with the middle one. */
    private static int pooled(int left, int middle, int right) {
        int more = Math.max(left, right);
        int less = Math.min(left, right);
        if (more < middle) {
            return 0;
        }
        // The one above goes first; the other one comes in, if it is not below what the two are.
        return 2 * less >= more + middle ? 3 : 2;
    }

    private static void lotsFromNow() {
        Edges.sentence("each from now: RAW of each");
        LatticeGrader x = Edges.with(50, 60);
        x.rule(0, 1);
        x.kind(0, 1, 9);
        x.kind(1, 3, 9);
        x.heavy(0, 4);
        x.place(0, 3);
        int due = 0;
        int z = 4;
        for (int n = 0; n < 20; n++) {
            int first = next(z);
            z = next(first);
            due += draw(first) + 9 > Math.min(50, Math.max(0, draw(z) - 27)) ? 1 : 0;
        }
        Edges.due(x.lots(20, 4, 0), due);
        Edges.due(x.lots(20, 4, 0), due);
        Edges.due(x.of(0, 0), 50);
        Edges.due(x.of(1, 0), 60);
        Edges.due(x.of(0, 2), 9);
        Edges.due(x.of(0, 3), 4);
    }

    // ---- shelves

    private static void shelves() {
        Edges.sentence("SHELVES 0 .. 3 are rows of longs (20 at most), missing at first");
        LatticeGrader x = new LatticeGrader();
        for (int s = 0; s < 4; s++) {
            Edges.due(x.look(s, 0), Edges.MISSING);
            Edges.due(x.look(s, -1), Edges.MISSING);
            Edges.due(x.put(s, 0, 1), -11);
            Edges.due(x.lays(0, s, 0), -11);
            Edges.due(x.judge(0, s), -11);
        }
        // A refused one stays missing.
        Edges.due(x.shelf(2, 21), -6);
        Edges.due(x.shelf(2, -1), -14);
        Edges.due(x.look(2, 0), Edges.MISSING);
        Edges.sentence("A SHELF becomes a row of n longs, all 0: 1");
        for (int s = 0; s < 4; s++) {
            Edges.due(x.shelf(s, 20), 1);
            for (int i = 0; i < 20; i++) {
                Edges.due(x.look(s, i), 0);
            }
            Edges.due(x.look(s, 20), Edges.NO_PLACE);
        }
        for (int n = 0; n <= 20; n += 5) {
            Edges.due(x.shelf(1, n), 1);
            Edges.due(x.look(1, n), Edges.NO_PLACE);
            Edges.due(x.put(1, n, 4), -13);
            Edges.due(x.look(1, n - 1), n == 0 ? Edges.NO_PLACE : 0);
            Edges.due(x.put(1, n - 1, 4), n == 0 ? -13 : 1);
            Edges.due(x.look(1, n - 1), n == 0 ? Edges.NO_PLACE : 4);
        }
        // Refused, a row keeps its size and its numbers.
        Edges.due(x.shelf(1, 21), -6);
        Edges.due(x.shelf(1, -1), -14);
        Edges.due(x.look(1, 19), 4);
        // Made anew, all is 0 again, also behind a lesser one.
        Edges.due(x.shelf(1, 1), 1);
        Edges.due(x.shelf(1, 20), 1);
        Edges.due(x.look(1, 19), 0);
        Edges.due(x.shelf(1, 0), 1);
        Edges.due(x.look(1, 0), Edges.NO_PLACE);
        Edges.due(x.judge(0, 1), -9);
    }

    /** Whether all of this SHELF is as shelvesApart() has put it. */
    private static void dueAsPut(LatticeGrader x, int shelf) {
        for (int i = 0; i < 20; i++) {
            Edges.due("shelf " + shelf + " place " + i, x.look(shelf, i), 100 * shelf + i + 1);
        }
    }

    private static void shelvesApart() {
        Edges.sentence("what becomes of one SHELF is nothing to the others");
        for (int s = 0; s < 4; s++) {
            for (int size : new int[] {20, 0, 7, 19}) {
                LatticeGrader x = Edges.with(1, 2, 3, 4, 5, 6, 7);
                for (int shelf = 0; shelf < 4; shelf++) {
                    x.shelf(shelf, 20);
                    for (int i = 0; i < 20; i++) {
                        x.put(shelf, i, 100 * shelf + i + 1);
                    }
                }
                Edges.due(x.shelf(s, size), 1);
                Edges.due(x.put(s, 20, 5), -13);
                Edges.due(x.put(s, -1, 5), -13);
                x.put(s, 0, 5);
                x.put(s, size - 1, 5);
                x.lays(0, s, 15);
                x.lays(0, s, -1);
                x.lays(0, s, 0);
                for (int shelf = 0; shelf < 4; shelf++) {
                    if (shelf != s) {
                        dueAsPut(x, shelf);
                    }
                }
            }
        }
    }

    private static void longs() {
        Edges.sentence("Place i of a SHELF becomes v: 1; Place i of a SHELF");
        LatticeGrader x = new LatticeGrader();
        for (int s = 0; s < 4; s++) {
            x.shelf(s, 20);
        }
        long[] some = {Long.MIN_VALUE, Long.MAX_VALUE, -1, 0, 1, 4000000000000000001L, 4000000000000000011L,
            4000000000000000013L, Integer.MIN_VALUE - 1L, Integer.MAX_VALUE + 1L};
        for (int s = 0; s < 4; s++) {
            for (int i = 0; i < 10; i++) {
                Edges.due(x.put(s, i, some[(i + s) % 10]), 1);
                Edges.due(x.put(s, i + 10, 100 * s + i), 1);
            }
        }
        for (int s = 0; s < 4; s++) {
            for (int i = 0; i < 10; i++) {
                Edges.due(x.look(s, i), some[(i + s) % 10]);
                Edges.due(x.look(s, i + 10), 100 * s + i);
            }
        }
        for (int what = 11; what <= 16; what++) {
            Edges.due(x.count(what), 0);
        }
    }

    private static void dueShelf(LatticeGrader x, int shelf, long... numbers) {
        for (int i = 0; i < numbers.length; i++) {
            Edges.due("place " + i, x.look(shelf, i), numbers[i]);
        }
        Edges.due("behind", x.look(shelf, numbers.length), Edges.NO_PLACE);
    }

    private static void laid() {
        Edges.sentence("VALUES by RULES are laid into a SHELF, PAPER by PAPER, above, then below the line, from place i on: how many PAPERS");
        LatticeGrader x = Edges.with(81, 20, 7);
        x.rule(0, 1);
        x.shelf(3, 6);
        Edges.due(x.lays(0, 3, 0), 3);
        dueShelf(x, 3, 101, 2, 101, 2, 7, 1);
        x.shelf(3, 8);
        for (int i = 0; i < 8; i++) {
            x.put(3, i, -5);
        }
        Edges.due(x.lays(1, 3, 1), 3);
        dueShelf(x, 3, -5, 20, 1, 20, 1, 7, 1, -5);
        Edges.due(x.lays(2, 3, 2), 3);
        dueShelf(x, 3, -5, 20, 101, 2, 101, 2, 7, 1);
        // Seven PAPERS in 20 places: from 6 on just so.
        LatticeGrader y = Edges.with(1, 2, 3, 4, 5, 6, 7);
        y.shelf(0, 20);
        Edges.due(y.lays(0, 0, 6), 7);
        dueShelf(y, 0, 0, 0, 0, 0, 0, 0, 1, 1, 2, 1, 3, 1, 4, 1, 5, 1, 6, 1, 7, 1);
        Edges.sentence("of no PAPERS nothing is laid, and all of it has its place");
        LatticeGrader none = new LatticeGrader();
        none.shelf(0, 0);
        none.shelf(1, 2);
        for (int loss = 0; loss <= 2; loss++) {
            Edges.due(none.lays(loss, 0, 0), 0);
            Edges.due(none.lays(loss, 1, 0), 0);
            Edges.due(none.lays(loss, 1, 1), 0);
        }
        dueShelf(none, 1, 0, 0);
    }

    private static void laidInPart() {
        Edges.sentence("-13: not all of it had a place (what had one ahead of the first that had none is laid)");
        LatticeGrader x = Edges.with(81, 20, 7);
        x.rule(0, 1);
        long[] all = {101, 2, 101, 2, 7, 1};
        for (int size = 0; size <= 7; size++) {
            for (int from = 0; from <= 7; from++) {
                x.shelf(0, size);
                Edges.due(size + " from " + from, x.lays(0, 0, from), from + 6 <= size ? 3 : -13);
                for (int i = 0; i < size; i++) {
                    if (size + from < 9) {
                        Edges.due(size + " from " + from + " place " + i, x.look(0, i), i < from || i - from > 5 ? 0 : all[i - from]);
                    }
                }
            }
        }
        // From ahead of the first place, the first number has none, and so nothing is laid.
        LatticeGrader y = Edges.with(81, 20, 7);
        y.shelf(0, 20);
        for (int from : new int[] {-1, -2, -6, Edges.MIN, Edges.MAX, Edges.MAX - 1, 20}) {
            Edges.due("from " + from, y.lays(0, 0, from), -13);
            for (int i = 0; i < 20; i++) {
                Edges.due("place " + i, y.look(0, i), 0);
            }
        }
        Edges.due(y.lays(0, 0, 19), -13);
        Edges.due(y.look(0, 19), 81);
        Edges.due(y.lays(0, 0, 18), -13);
        Edges.due(y.look(0, 19), 1);
        Edges.sentence("Those of SHELVES (not counted)");
        for (int what = 11; what <= 16; what++) {
            Edges.due(y.count(what), 0);
        }
    }

    private static void laidByLosses() {
        Edges.sentence("VALUES by RULES are laid, as value() tells them");
        int[] raws = {99, 88, 77, 66, 55, 44, 33};
        for (int loss = 0; loss <= 2; loss++) {
            LatticeGrader x = Edges.made(Edges::full);
            for (int p = 0; p < 7; p++) {
                x.heavy(p, 1 + raws[p] % 9);
            }
            Edges.due(x.lays(loss, 2, 3), 7);
            for (int p = 0; p < 7; p++) {
                Edges.due(x.look(2, 3 + 2 * p), x.value(loss, p, 0));
                Edges.due(x.look(2, 4 + 2 * p), x.value(loss, p, 1));
            }
        }
    }

    private static void judged() {
        Edges.sentence("looked at number by number: the first PAPER of which it is otherwise; -9");
        LatticeGrader x = Edges.with(10, 20, 30, 40, 50, 60, 70);
        x.rule(0, 1);
        x.shelf(0, 14);
        for (int loss = 0; loss <= 2; loss++) {
            Edges.due(x.judge(loss, 0), loss == 0 ? 0 : -9);
            x.lays(loss, 0, 0);
            Edges.due(x.judge(loss, 0), -9);
        }
        for (int i = 13; i >= 0; i--) {
            long was = x.look(0, i);
            x.put(0, i, was + 1);
            Edges.due("place " + i, x.judge(0, 0), i / 2);
            x.put(0, i, was - 1);
            Edges.due("place " + i, x.judge(2, 0), i / 2);
            // As ints these are alike, as longs they are not.
            x.put(0, i, was + (1L << 32));
            Edges.due("place " + i, x.judge(1, 0), i / 2);
            x.put(0, i, was);
            Edges.due(x.judge(0, 0), -9);
        }
        // Of several the first.
        x.put(0, 13, 5);
        x.put(0, 4, 5);
        Edges.due(x.judge(0, 0), 2);
        x.put(0, 0, -10);
        Edges.due(x.judge(0, 0), 0);
        // In least terms alone: 20 by 2 is otherwise than 10 by 1.
        x.lays(0, 0, 0);
        x.put(0, 0, 20);
        x.put(0, 1, 2);
        Edges.due(x.judge(0, 0), 0);
        Edges.sentence("of no PAPERS nothing is otherwise");
        LatticeGrader none = new LatticeGrader();
        none.shelf(0, 0);
        none.shelf(1, 3);
        for (int loss = 0; loss <= 2; loss++) {
            Edges.due(none.judge(loss, 0), -9);
            Edges.due(none.judge(loss, 1), -9);
        }
    }

    private static void judgedShort() {
        Edges.sentence("100 and how many whole PAPERS were as they are, if the row ends ahead of a number that is otherwise");
        LatticeGrader x = Edges.with(10, 20, 30, 40, 50, 60, 70);
        for (int size = 0; size <= 15; size++) {
            x.shelf(1, size);
            x.lays(0, 1, 0);
            Edges.due("size " + size, x.judge(0, 1), size >= 14 ? -9 : 100 + size / 2);
        }
        Edges.sentence("(also if the row ends behind its first number, that being otherwise)");
        for (int size = 1; size <= 13; size += 2) {
            x.shelf(1, size);
            x.lays(0, 1, 0);
            x.put(1, size - 1, 99);
            Edges.due("size " + size, x.judge(0, 1), size / 2);
        }
        // The row ends behind a whole PAPER that is otherwise, too.
        for (int size = 2; size <= 14; size += 2) {
            x.shelf(1, size);
            x.lays(0, 1, 0);
            x.put(1, size - 1, 2);
            Edges.due("size " + size, x.judge(0, 1), size / 2 - 1);
        }
    }

    private static void judgedOnLong() {
        Edges.sentence("from place 0 on: what is behind the last PAPER is not looked at");
        LatticeGrader x = Edges.with(10, 20);
        x.shelf(0, 20);
        x.lays(0, 0, 0);
        for (int i = 4; i < 20; i++) {
            x.put(0, i, i);
        }
        Edges.due(x.judge(0, 0), -9);
        x.lays(0, 0, 2);
        Edges.due(x.judge(0, 0), 1);
        x.lays(0, 0, 1);
        Edges.due(x.judge(0, 0), 0);
        // By each LOSS its own VALUES.
        LatticeGrader y = Edges.with(80, 20);
        y.rule(0, 1);
        y.heavy(0, 2);
        y.shelf(0, 4);
        y.lays(0, 0, 0);
        Edges.due(y.judge(0, 0), -9);
        Edges.due(y.judge(1, 0), 0);
        Edges.due(y.judge(2, 0), 0);
        y.lays(1, 0, 0);
        Edges.due(y.judge(0, 0), 0);
        Edges.due(y.judge(1, 0), -9);
        y.lays(2, 0, 0);
        Edges.due(y.judge(1, 0), 0);
        Edges.due(y.judge(2, 0), -9);
    }

    // ---- the image

    private static void images() {
        Edges.sentence("THE IMAGE is taken: how many PAPERS; ON from it: how many PAPERS");
        LatticeGrader x = new LatticeGrader();
        Edges.due(x.on(), -3);
        for (int papers = 0; papers <= 7; papers++) {
            Edges.due(x.image(), papers);
            Edges.due(x.paper(papers), papers < 7 ? papers : -6);
            Edges.due(x.on(), papers);
            Edges.due(x.count(0), papers);
            x.paper(papers);
        }
        Edges.due(x.count(13), 1);
    }

    private static void imagesOfNothing() {
        Edges.sentence("an image of a new object is one");
        LatticeGrader x = new LatticeGrader();
        Edges.due(x.image(), 0);
        Edges.papers(x, 5, 6, 7);
        x.rule(0, 1);
        x.limit(4);
        x.ties(2);
        Edges.due(x.on(), 0);
        for (int what = 0; what <= 3; what++) {
            Edges.due(x.count(what), 0);
        }
        Edges.due(x.of(0, 0), -1);
        Edges.due(x.free(0), -1);
        Edges.due(x.limit(1), 1);
        Edges.due(x.paper(9), 0);
        Edges.due(x.of(0, 7), 1);
    }

    private static void imagesKeep() {
        Edges.sentence("THE IMAGE: PAPERS with all that is theirs, RULES, LIMITS, TIES; ON from it these are as then");
        LatticeGrader x = Edges.made(Edges::full);
        for (int p = 0; p < 7; p++) {
            x.kind(p, p % 6, p);
            x.heavy(p, p + 2);
            x.place(p, 9 - p);
        }
        x.ties(1);
        Edges.due(x.image(), 7);
        for (int p = 0; p < 7; p++) {
            x.kind(p, 5 - p % 6, 9 - p);
            x.heavy(p, 9 - p);
            x.place(p, p);
            x.raw(p, 10 * p);
        }
        x.ties(2);
        x.free(11);
        x.free(0);
        x.limits();
        x.limit(7);
        Edges.due(x.on(), 7);
        int[] raws = {99, 88, 77, 66, 55, 44, 33};
        for (int p = 0; p < 7; p++) {
            Edges.due(x.of(p, 0), raws[p]);
            Edges.due(x.of(p, 1), p % 6);
            Edges.due(x.of(p, 2), p);
            Edges.due(x.of(p, 3), p + 2);
            Edges.due(x.of(p, 4), 9 - p);
        }
        Edges.due(x.count(1), 12);
        Edges.due(x.ruleOf(0, 1), 1);
        Edges.due(x.ruleOf(11, 0), 2);
        Edges.due(x.count(2), 5);
        Edges.due(x.limit(97), -6);
        Edges.due(x.of(6, 7), 1);
        Edges.due(x.count(3), 1);
        Edges.sentence("the image stays, till another one is taken");
        x.raw(0, 3);
        Edges.due(x.on(), 7);
        Edges.due(x.of(0, 0), 99);
        x.raw(0, 4);
        Edges.due(x.image(), 7);
        x.raw(0, 5);
        Edges.due(x.on(), 7);
        Edges.due(x.of(0, 0), 4);
    }

    private static void imagesLeave() {
        Edges.sentence("letters, ROW, SHELVES and REFUSALS are not in THE IMAGE");
        LatticeGrader x = new LatticeGrader();
        x.image();
        Edges.letters(x, "paper 7;");
        x.row(5);
        x.shelf(0, 2);
        x.put(0, 1, 9);
        x.free(0);
        Edges.due(x.on(), 0);
        Edges.due(x.count(4), 8);
        Edges.due(x.count(5), 1);
        Edges.due(x.look(0, 1), 9);
        Edges.due(x.count(11), 1);
        Edges.due(x.tells(), 1);
        Edges.due(x.of(0, 0), 7);
        Edges.sentence("with a FAULT nothing comes, THE IMAGE stays");
        Edges.due(Edges.tells(x, "paper 8;ties 9;"), -2008);
        Edges.due(x.on(), 0);
        Edges.due(x.count(0), 0);
        Edges.sentence("NEEDS and LOTS leave THE IMAGE as it was taken");
        LatticeGrader y = Edges.with(80, 20);
        y.rule(0, 1);
        y.limit(50);
        y.image();
        y.raw(0, 70);
        y.lots(20, 3, 0);
        y.needs(0, 1, 1);
        Edges.due(y.of(0, 0), 70);
        Edges.due(y.on(), 2);
        Edges.due(y.of(0, 0), 80);
        Edges.due(y.of(1, 0), 20);
    }

    private static void counts() {
        Edges.sentence("0 PAPERS, 1 RULES, 2 LIMITS, 3 TIES, 4 letters, 5 in the ROW, 6 RULES (bits) by which MARK of LOWER is above UPPER's");
        LatticeGrader full = Edges.made(Edges::full);
        int[] most = {7, 12, 5, 0, 120, 10, 4095};
        for (int what = 0; what <= 6; what++) {
            Edges.due(full.count(what), most[what]);
        }
        full.ties(2);
        Edges.due(full.count(3), 2);
        // 6 is raised: RULES 5 and 10 are not broken.
        full.raw(6, 99);
        Edges.due(full.count(6), 4095 - 32 - 1024);
        full.free(0);
        Edges.due(full.count(6), 2047 - 16 - 512);
        LatticeGrader some = Edges.made(Edges::some);
        int[] due = {5, 3, 4, 2, 10, 3, 0};
        for (int what = 0; what <= 6; what++) {
            Edges.due(some.count(what), due[what]);
        }
        int[] refusals = {1, 1, 1, 1, 0, 1};
        for (int what = 11; what <= 16; what++) {
            Edges.due(some.count(what), refusals[what - 11]);
        }
        Edges.sentence("-9 for another what");
        for (int what : new int[] {-2, -1, 7, 8, 9, 10, 17, 18, 100, Edges.MIN, Edges.MAX}) {
            Edges.due(some.count(what), -9);
        }
    }
}
