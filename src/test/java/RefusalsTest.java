/**
 * REFUSALS: of each call each number that it refuses, the one just inside and the one just outside, which refusal comes
 * first where two would fit, and that nothing changes but how many there were. Each is tried on an object with nothing,
 * with some and with all that there is room for, beside one on which nothing was refused.
 */
public final class RefusalsTest {
    private static final int[] NO_PARTS = {-1, 2, Edges.MIN, Edges.MAX};
    private static final int[] NO_LOSSES = {-1, 3, Edges.MIN, Edges.MAX};
    private static final int[] NO_LINE_LOSSES = {-1, 2, 3, Edges.MIN, Edges.MAX};
    private static final int[] NO_SHELVES = {-1, 4, Edges.MIN, Edges.MAX};
    private static final int[] BELOW_0 = {-1, Edges.MIN};

    private interface CallWith {
        long on(LatticeGrader x, int number);
    }

    public static void main(String[] args) {
        ofLetters();
        ofPapers();
        ofRules();
        ofLimitsAndTies();
        ofAsking();
        ofTheLine();
        ofValues();
        ofWorths();
        ofNeedsAndLikely();
        ofSaying();
        ofRowsAndLots();
        ofShelves();
        ofLayingAndJudging();
        ofTheImage();
        ofNothing();
        askingChangesNothing();
        counting();
        Edges.end();
    }

    private static void each(int[] numbers, CallWith call, long want) {
        for (int number : numbers) {
            Edges.refusedAnywhere(x -> call.on(x, number), want);
        }
    }

    private static void eachOn(Edges.Making making, int[] numbers, CallWith call, long want) {
        for (int number : numbers) {
            Edges.refused(making, x -> call.on(x, number), want);
        }
    }

    /** The numbers around those of the PAPERS that are there. */
    private static void eachNoPaper(CallWith call, long want) {
        eachOn(Edges::empty, new int[] {-1, 0, 1, Edges.MIN, Edges.MAX}, call, want);
        eachOn(Edges::some, new int[] {-1, 5, 6, Edges.MIN, Edges.MAX}, call, want);
        eachOn(Edges::full, new int[] {-1, 7, 8, 32, Edges.MIN, Edges.MAX}, call, want);
    }

    private static void eachNoRule(CallWith call, long want) {
        eachOn(Edges::empty, new int[] {-1, 0, Edges.MIN, Edges.MAX}, call, want);
        eachOn(Edges::some, new int[] {-1, 3, Edges.MIN, Edges.MAX}, call, want);
        eachOn(Edges::full, new int[] {-1, 12, 32, Edges.MIN, Edges.MAX}, call, want);
    }

    private static void onBoth(Edges.Call call, long want) {
        Edges.refused(Edges::some, call, want);
        Edges.refused(Edges::full, call, want);
    }

    private static void eachOnBoth(int[] numbers, CallWith call, long want) {
        eachOn(Edges::some, numbers, call, want);
        eachOn(Edges::full, numbers, call, want);
    }

    private static void ofLetters() {
        Edges.sentence("letter: -4; -6 (255; 120, too)");
        each(BELOW_0, (x, c) -> x.letter(c), -4);
        each(new int[] {256, 1000, Edges.MAX}, (x, c) -> x.letter(c), -6);
        eachOn(Edges::full, new int[] {0, 65, 255}, (x, c) -> x.letter(c), -6);
    }

    private static void ofPapers() {
        Edges.sentence("paper: -4; -6 (99; 7, too)");
        each(BELOW_0, (x, raw) -> x.paper(raw), -4);
        each(new int[] {100, Edges.MAX}, (x, raw) -> x.paper(raw), -6);
        eachOn(Edges::full, new int[] {0, 50, 99}, (x, raw) -> x.paper(raw), -6);

        Edges.sentence("kind: -1; -2; -4; -6 9");
        eachNoPaper((x, p) -> x.kind(p, 1, 1), -1);
        eachNoPaper((x, p) -> x.kind(p, 6, 1), -1);
        eachNoPaper((x, p) -> x.kind(p, 1, -1), -1);
        eachNoPaper((x, p) -> x.kind(p, 1, 10), -1);
        int[] noKinds = {-1, 6, Edges.MIN, Edges.MAX};
        eachOnBoth(noKinds, (x, k) -> x.kind(0, k, 1), -2);
        eachOnBoth(noKinds, (x, k) -> x.kind(1, k, -1), -2);
        eachOnBoth(noKinds, (x, k) -> x.kind(2, k, 10), -2);
        eachOnBoth(BELOW_0, (x, f) -> x.kind(0, 2, f), -4);
        eachOnBoth(new int[] {10, Edges.MAX}, (x, f) -> x.kind(0, 2, f), -6);

        Edges.sentence("raw: -1; -4; -6 99");
        eachNoPaper((x, p) -> x.raw(p, 5), -1);
        eachNoPaper((x, p) -> x.raw(p, -1), -1);
        eachNoPaper((x, p) -> x.raw(p, 100), -1);
        eachOnBoth(BELOW_0, (x, v) -> x.raw(0, v), -4);
        eachOnBoth(new int[] {100, Edges.MAX}, (x, v) -> x.raw(0, v), -6);

        Edges.sentence("heavy: -1; -4 (below 1); -6 9");
        eachNoPaper((x, p) -> x.heavy(p, 5), -1);
        eachNoPaper((x, p) -> x.heavy(p, 0), -1);
        eachNoPaper((x, p) -> x.heavy(p, 10), -1);
        eachOnBoth(new int[] {0, -1, Edges.MIN}, (x, v) -> x.heavy(0, v), -4);
        eachOnBoth(new int[] {10, Edges.MAX}, (x, v) -> x.heavy(0, v), -6);

        Edges.sentence("place: -1; -4; -6 9");
        eachNoPaper((x, p) -> x.place(p, 5), -1);
        eachNoPaper((x, p) -> x.place(p, -1), -1);
        eachNoPaper((x, p) -> x.place(p, 10), -1);
        eachOnBoth(BELOW_0, (x, v) -> x.place(0, v), -4);
        eachOnBoth(new int[] {10, Edges.MAX}, (x, v) -> x.place(0, v), -6);
    }

    private static void ofRules() {
        Edges.sentence("rule: -1 either (one twice, too); -3 there is one with these, or UPPER is UNDER LOWER; -6 12");
        eachNoPaper((x, p) -> x.rule(p, 0), -1);
        eachNoPaper((x, p) -> x.rule(0, p), -1);
        eachNoPaper((x, p) -> x.rule(p, p), -1);
        for (int p = 0; p < 5; p++) {
            int one = p;
            onBoth(x -> x.rule(one, one), -1);
        }
        Edges.refused(Edges::full, x -> x.rule(6, 6), -1);
        // RULES are 1 to 2, 3 to 2, 3 to 4; with one of 2 to 0 behind them, 0 has 1 and 3 UNDER it.
        Edges.refused(Edges::some, x -> x.rule(1, 2), -3);
        Edges.refused(Edges::some, x -> x.rule(2, 1), -3);
        Edges.refused(Edges::some, x -> x.rule(3, 4), -3);
        Edges.refused(Edges::some, x -> x.rule(4, 3), -3);
        Edges.Making longer = x -> {
            Edges.some(x);
            x.rule(2, 0);
        };
        Edges.refused(longer, x -> x.rule(0, 1), -3);
        Edges.refused(longer, x -> x.rule(0, 3), -3);
        // All 12 are there: each of them, each turned, and those that would be new.
        for (int u = 1; u < 7; u++) {
            int upper = u;
            Edges.refused(Edges::full, x -> x.rule(0, upper), -3);
            Edges.refused(Edges::full, x -> x.rule(upper, 0), -3);
        }
        Edges.refused(Edges::full, x -> x.rule(3, 1), -3);
        Edges.refused(Edges::full, x -> x.rule(3, 2), -3);
        Edges.refused(Edges::full, x -> x.rule(2, 4), -6);
        Edges.refused(Edges::full, x -> x.rule(6, 5), -6);

        Edges.sentence("free: -1");
        eachNoRule((x, r) -> x.free(r), -1);
    }

    private static void ofLimitsAndTies() {
        Edges.sentence("limit: -4 (below 1); -6 (99; 5 are there, too); -3 it is not above the last");
        each(new int[] {0, -1, Edges.MIN}, (x, v) -> x.limit(v), -4);
        each(new int[] {100, Edges.MAX}, (x, v) -> x.limit(v), -6);
        // 5 are there, the last 96: room lacks, whether above it or not.
        eachOn(Edges::full, new int[] {1, 95, 96, 97, 99}, (x, v) -> x.limit(v), -6);
        // Of 4 the last is 95.
        eachOn(Edges::some, new int[] {1, 30, 94, 95}, (x, v) -> {
            return x.limit(v);
        }, -3);

        Edges.sentence("ties: -2");
        each(new int[] {-1, 3, Edges.MIN, Edges.MAX}, (x, t) -> x.ties(t), -2);
    }

    private static void ofAsking() {
        Edges.sentence("of: -1; -2");
        eachNoPaper((x, p) -> x.of(p, 0), -1);
        eachNoPaper((x, p) -> x.of(p, 8), -1);
        eachOnBoth(new int[] {-1, 8, Edges.MIN, Edges.MAX}, (x, what) -> x.of(0, what), -2);
        Edges.sentence("ruleOf: -1; -2");
        eachNoRule((x, r) -> x.ruleOf(r, 0), -1);
        eachNoRule((x, r) -> x.ruleOf(r, 3), -1);
        eachOnBoth(new int[] {-1, 3, Edges.MIN, Edges.MAX}, (x, what) -> x.ruleOf(0, what), -2);
        Edges.sentence("under: -1 either (one twice, too)");
        eachNoPaper((x, p) -> x.under(p, 0), -1);
        eachNoPaper((x, p) -> x.under(0, p), -1);
        eachNoPaper((x, p) -> x.under(p, p), -1);
        eachOnBoth(new int[] {0, 1, 2, 3, 4}, (x, p) -> x.under(p, p), -1);
        Edges.sentence("pairs: -2");
        each(NO_PARTS, (x, what) -> x.pairs(what), -2);
    }

    private static void ofTheLine() {
        Edges.sentence("line: Refused as told: -2 LOSS (0, 1); -1; -2 part");
        each(NO_LINE_LOSSES, (x, loss) -> x.line(loss, 0, 0), Edges.OTHER);
        each(NO_LINE_LOSSES, (x, loss) -> x.line(loss, -1, 0), Edges.OTHER);
        each(NO_LINE_LOSSES, (x, loss) -> x.line(loss, 0, 2), Edges.OTHER);
        eachNoPaper((x, p) -> x.line(0, p, 0), Edges.NOBODY);
        eachNoPaper((x, p) -> x.line(1, p, 1), Edges.NOBODY);
        eachNoPaper((x, p) -> x.line(1, p, 2), Edges.NOBODY);
        eachOnBoth(NO_PARTS, (x, part) -> x.line(0, 0, part), Edges.OTHER);
        eachOnBoth(NO_PARTS, (x, part) -> x.line(1, 4, part), Edges.OTHER);

        Edges.sentence("block: -2 LOSS (0, 1); -1");
        each(NO_LINE_LOSSES, (x, loss) -> x.block(loss, -1), -2);
        each(NO_LINE_LOSSES, (x, loss) -> x.block(loss, -2), -2);
        each(NO_LINE_LOSSES, (x, loss) -> x.block(loss, 7), -2);
        each(new int[] {-2, 7, Edges.MIN, Edges.MAX}, (x, i) -> x.block(0, i), -1);
        each(new int[] {-2, 7, Edges.MIN, Edges.MAX}, (x, i) -> x.block(1, i), -1);
        Edges.refused(Edges::empty, x -> x.block(0, 0), -1);
        for (int loss = 0; loss <= 1; loss++) {
            int by = loss;
            for (Edges.Making making : Edges.ANYWHERE) {
                // Just behind the last.
                Edges.refused(making, x -> x.block(by, x.block(by, -1)), -1);
            }
        }

        Edges.sentence("merges: -2 LOSS (0, 1)");
        each(NO_LINE_LOSSES, (x, loss) -> x.merges(loss), -2);
        Edges.sentence("lineChange: Refused as told: -2 LOSS (0, 1), part");
        each(NO_LINE_LOSSES, (x, loss) -> x.lineChange(loss, 0), Edges.OTHER);
        each(NO_LINE_LOSSES, (x, loss) -> x.lineChange(loss, 2), Edges.OTHER);
        each(NO_PARTS, (x, part) -> x.lineChange(0, part), Edges.OTHER);
        each(NO_PARTS, (x, part) -> x.lineChange(1, part), Edges.OTHER);
    }

    private static void ofValues() {
        Edges.sentence("value: Refused as told: -2 LOSS; -1; -2 part");
        each(NO_LOSSES, (x, loss) -> x.value(loss, 0, 0), Edges.OTHER);
        each(NO_LOSSES, (x, loss) -> x.value(loss, -1, 0), Edges.OTHER);
        each(NO_LOSSES, (x, loss) -> x.value(loss, 7, 2), Edges.OTHER);
        for (int loss = 0; loss <= 2; loss++) {
            int by = loss;
            eachNoPaper((x, p) -> x.value(by, p, 0), Edges.NOBODY);
            eachNoPaper((x, p) -> x.value(by, p, 2), Edges.NOBODY);
            eachOnBoth(NO_PARTS, (x, part) -> x.value(by, 0, part), Edges.OTHER);
        }
        Edges.sentence("grade: -2 LOSS; -1");
        each(NO_LOSSES, (x, loss) -> x.grade(loss, 0), -2);
        each(NO_LOSSES, (x, loss) -> x.grade(loss, -1), -2);
        Edges.sentence("change: Refused as told: -2 LOSS, part");
        each(NO_LOSSES, (x, loss) -> x.change(loss, 0), Edges.OTHER);
        each(NO_LOSSES, (x, loss) -> x.change(loss, 2), Edges.OTHER);
        Edges.sentence("pool: -2 LOSS; -1");
        each(NO_LOSSES, (x, loss) -> x.pool(loss, 0), -2);
        each(NO_LOSSES, (x, loss) -> x.pool(loss, 7), -2);
        for (int loss = 0; loss <= 2; loss++) {
            int by = loss;
            Edges.sentence("grade: -1");
            eachNoPaper((x, p) -> x.grade(by, p), -1);
            Edges.sentence("change: part");
            each(NO_PARTS, (x, part) -> x.change(by, part), Edges.OTHER);
            Edges.sentence("pool: -1");
            eachNoPaper((x, p) -> x.pool(by, p), -1);
        }
        Edges.sentence("binds: -2 LOSS");
        each(NO_LOSSES, (x, loss) -> x.binds(loss), -2);
    }

    private static void ofWorths() {
        Edges.sentence("worth: Refused as told: -2 LOSS; -1; -2 part");
        each(NO_LOSSES, (x, loss) -> x.worth(loss, 0, 0), Edges.OTHER);
        each(NO_LOSSES, (x, loss) -> x.worth(loss, -1, 0), Edges.OTHER);
        each(NO_LOSSES, (x, loss) -> x.worth(loss, 12, 2), Edges.OTHER);
        for (int loss = 0; loss <= 2; loss++) {
            int by = loss;
            eachNoRule((x, r) -> x.worth(by, r, 0), Edges.NOBODY);
            eachNoRule((x, r) -> x.worth(by, r, 2), Edges.NOBODY);
            eachOnBoth(NO_PARTS, (x, part) -> x.worth(by, 2, part), Edges.OTHER);
        }
        Edges.sentence("dearest: -2 LOSS");
        each(NO_LOSSES, (x, loss) -> x.dearest(loss), -2);
    }

    private static void ofNeedsAndLikely() {
        Edges.sentence("needs: -2 LOSS; -1; -4; -6 5");
        each(NO_LOSSES, (x, loss) -> x.needs(loss, 0, 1), -2);
        each(NO_LOSSES, (x, loss) -> x.needs(loss, -1, 1), -2);
        each(NO_LOSSES, (x, loss) -> x.needs(loss, 0, -1), -2);
        each(NO_LOSSES, (x, loss) -> x.needs(loss, 0, 6), -2);
        Edges.sentence("likely: Refused as told: -2 LOSS; -1; -4 (t below 2); -6 20; -2 part");
        each(NO_LOSSES, (x, loss) -> x.likely(loss, 0, 2, 0), Edges.OTHER);
        each(NO_LOSSES, (x, loss) -> x.likely(loss, -1, 2, 0), Edges.OTHER);
        each(NO_LOSSES, (x, loss) -> x.likely(loss, 0, 1, 0), Edges.OTHER);
        each(NO_LOSSES, (x, loss) -> x.likely(loss, 0, 21, 0), Edges.OTHER);
        each(NO_LOSSES, (x, loss) -> x.likely(loss, 7, 1, 2), Edges.OTHER);
        for (int loss = 0; loss <= 2; loss++) {
            ofNeeding(loss);
            ofLikelihood(loss);
        }
    }

    private static void ofNeeding(int loss) {
        Edges.sentence("needs: -1; -4; -6 5");
        eachNoPaper((x, p) -> x.needs(loss, p, 1), -1);
        eachNoPaper((x, p) -> x.needs(loss, p, -1), -1);
        eachNoPaper((x, p) -> x.needs(loss, p, 6), -1);
        eachOnBoth(BELOW_0, (x, g) -> x.needs(loss, 0, g), -4);
        eachOnBoth(new int[] {6, Edges.MAX}, (x, g) -> x.needs(loss, 0, g), -6);
    }

    private static void ofLikelihood(int loss) {
        Edges.sentence("likely: -1; -4 (t below 2); -6 20; -2 part");
        eachNoPaper((x, p) -> x.likely(loss, p, 2, 0), Edges.NOBODY);
        eachNoPaper((x, p) -> x.likely(loss, p, 1, 0), Edges.NOBODY);
        eachNoPaper((x, p) -> x.likely(loss, p, 21, 0), Edges.NOBODY);
        eachNoPaper((x, p) -> x.likely(loss, p, 2, 2), Edges.NOBODY);
        int[] few = {1, 0, -1, Edges.MIN};
        int[] many = {21, 22, Edges.MAX};
        eachOnBoth(few, (x, t) -> x.likely(loss, 0, t, 0), Edges.BELOW);
        eachOnBoth(few, (x, t) -> x.likely(loss, 0, t, 2), Edges.BELOW);
        eachOnBoth(many, (x, t) -> x.likely(loss, 0, t, 0), Edges.ROOM);
        eachOnBoth(many, (x, t) -> x.likely(loss, 0, t, -1), Edges.ROOM);
        eachOnBoth(NO_PARTS, (x, part) -> x.likely(loss, 0, 2, part), Edges.OTHER);
        eachOnBoth(NO_PARTS, (x, part) -> x.likely(loss, 0, 20, part), Edges.OTHER);
    }

    private static void ofSaying() {
        Edges.sentence("says: -1 (either)");
        eachNoPaper((x, p) -> x.says(p, 0), -1);
        eachNoPaper((x, p) -> x.says(p, -1), -1);
        eachNoPaper((x, p) -> x.says(p, -2), -1);
        eachOnBoth(new int[] {-2, 40, Edges.MIN, Edges.MAX}, (x, i) -> x.says(0, i), -1);
        // Just behind the last letter.
        onBoth(x -> x.says(0, x.says(0, -1)), -1);
        onBoth(x -> x.says(4, x.says(4, -1)), -1);
    }

    private static void ofRowsAndLots() {
        Edges.sentence("whatIs: -1; -2");
        eachNoPaper((x, p) -> x.whatIs(p, 0), -1);
        eachNoPaper((x, p) -> x.whatIs(p, 2), -1);
        eachOnBoth(NO_PARTS, (x, what) -> x.whatIs(0, what), -2);
        Edges.sentence("row: -4; -6 (999; 10, too)");
        each(BELOW_0, (x, v) -> x.row(v), -4);
        each(new int[] {1000, Edges.MAX}, (x, v) -> x.row(v), -6);
        eachOn(Edges::full, new int[] {0, 100, 999}, (x, v) -> x.row(v), -6);
        Edges.sentence("lots: -4; -6 20; -2");
        int[] few = {0, -1, Edges.MIN};
        int[] many = {21, Edges.MAX};
        each(few, (x, n) -> x.lots(n, 5, 0), -4);
        each(few, (x, n) -> x.lots(n, 5, 2), -4);
        each(many, (x, n) -> x.lots(n, 5, 1), -6);
        each(many, (x, n) -> x.lots(n, 5, -1), -6);
        each(NO_PARTS, (x, what) -> x.lots(1, 5, what), -2);
        each(NO_PARTS, (x, what) -> x.lots(20, 5, what), -2);
    }

    private static void ofShelves() {
        Edges.sentence("shelf: -1; -6 20; -14");
        each(NO_SHELVES, (x, s) -> x.shelf(s, 5), -1);
        each(NO_SHELVES, (x, s) -> x.shelf(s, 21), -1);
        each(NO_SHELVES, (x, s) -> x.shelf(s, -1), -1);
        for (int s = 0; s < 4; s++) {
            int shelf = s;
            each(new int[] {21, 22, Edges.MAX}, (x, n) -> x.shelf(shelf, n), -6);
            each(BELOW_0, (x, n) -> x.shelf(shelf, n), -14);
        }
        Edges.sentence("put: -1; -11; -13");
        each(NO_SHELVES, (x, s) -> x.put(s, 0, 5), -1);
        each(NO_SHELVES, (x, s) -> x.put(s, -1, 5), -1);
        Edges.sentence("look: -1; it is missing; no such place");
        each(NO_SHELVES, (x, s) -> x.look(s, 0), Edges.NOBODY);
        each(NO_SHELVES, (x, s) -> x.look(s, 20), Edges.NOBODY);
        for (int i : new int[] {0, 5, 19, -1, 20, Edges.MIN, Edges.MAX}) {
            Edges.sentence("put: -11, look: it is missing");
            eachOn(Edges::empty, new int[] {0, 1, 2, 3}, (x, s) -> x.put(s, i, 5), -11);
            eachOn(Edges::empty, new int[] {0, 1, 2, 3}, (x, s) -> x.look(s, i), Edges.MISSING);
            eachOn(Edges::some, new int[] {2, 3}, (x, s) -> x.put(s, i, 5), -11);
            eachOn(Edges::some, new int[] {2, 3}, (x, s) -> x.look(s, i), Edges.MISSING);
        }
        for (int i : new int[] {-1, 20, Edges.MIN, Edges.MAX}) {
            Edges.sentence("put: -13, look: no such place");
            eachOn(Edges::full, new int[] {0, 1, 2, 3}, (x, s) -> x.put(s, i, 5), -13);
            eachOn(Edges::full, new int[] {0, 1, 2, 3}, (x, s) -> x.look(s, i), Edges.NO_PLACE);
        }
        // SHELF 0 has places 0 .. 5, SHELF 1 none.
        for (int i : new int[] {-1, 6, 19, 20}) {
            Edges.refused(Edges::some, x -> x.put(0, i, 5), -13);
            Edges.refused(Edges::some, x -> x.look(0, i), Edges.NO_PLACE);
        }
        for (int i : new int[] {-1, 0, 1}) {
            Edges.refused(Edges::some, x -> x.put(1, i, 5), -13);
            Edges.refused(Edges::some, x -> x.look(1, i), Edges.NO_PLACE);
        }
    }

    private static void ofLayingAndJudging() {
        Edges.sentence("lays: -2 LOSS; -1; -11");
        each(NO_LOSSES, (x, loss) -> x.lays(loss, 0, 0), -2);
        each(NO_LOSSES, (x, loss) -> x.lays(loss, 4, 0), -2);
        each(NO_LOSSES, (x, loss) -> x.lays(loss, 3, 99), -2);
        each(NO_SHELVES, (x, s) -> x.lays(0, s, 0), -1);
        each(NO_SHELVES, (x, s) -> x.lays(2, s, -1), -1);
        Edges.sentence("judge: -2 LOSS; -1; -11");
        each(NO_LOSSES, (x, loss) -> x.judge(loss, 0), -2);
        each(NO_LOSSES, (x, loss) -> x.judge(loss, 4), -2);
        each(NO_LOSSES, (x, loss) -> x.judge(loss, 3), -2);
        each(NO_SHELVES, (x, s) -> x.judge(0, s), -1);
        each(NO_SHELVES, (x, s) -> x.judge(2, s), -1);
        for (int loss = 0; loss <= 2; loss++) {
            int by = loss;
            Edges.sentence("lays: -11");
            eachOn(Edges::empty, new int[] {0, 1, 2, 3}, (x, s) -> x.lays(by, s, 0), -11);
            eachOn(Edges::some, new int[] {2, 3}, (x, s) -> x.lays(by, s, -1), -11);
            Edges.sentence("judge: -11");
            eachOn(Edges::empty, new int[] {0, 1, 2, 3}, (x, s) -> x.judge(by, s), -11);
            eachOn(Edges::some, new int[] {2, 3}, (x, s) -> x.judge(by, s), -11);
            Edges.sentence("lays: -13: not all of it had a place (here none had one)");
            eachOnBoth(new int[] {-1, 20, Edges.MIN, Edges.MAX}, (x, i) -> x.lays(by, 0, i), -13);
            Edges.refused(Edges::some, x -> x.lays(by, 0, 6), -13);
            Edges.refused(Edges::some, x -> x.lays(by, 1, 0), -13);
            Edges.refused(Edges::some, x -> x.lays(by, 1, -1), -13);
        }
    }

    private static void ofTheImage() {
        Edges.sentence("on: -3 there is none");
        Edges.refused(Edges::empty, LatticeGrader::on, -3);
        Edges.refused(x -> Edges.papers(x, 5, 6, 7), LatticeGrader::on, -3);
        Edges.Making twice = x -> {
            x.on();
            x.on();
        };
        Edges.refused(twice, LatticeGrader::on, -3);
        Edges.sentence("count: -9 for another what");
        for (int what : new int[] {-1, -9, 7, 8, 9, 10, 17, 18, Edges.MIN, Edges.MAX}) {
            for (Edges.Making making : Edges.ANYWHERE) {
                Edges.onlyAsks(making, x -> x.count(what), -9);
            }
        }
    }

    /** Calls that refuse nothing. */
    private static void ofNothing() {
        Edges.sentence("limits, clear, image: no REFUSAL, in a new object");
        LatticeGrader x = new LatticeGrader();
        Edges.due(x.limits(), 0);
        Edges.due(x.clear(), 0);
        Edges.due(x.image(), 0);
        Edges.due(x.on(), 0);
        Edges.sentence("the FAULT (no REFUSAL is counted)");
        Edges.due(x.tells(), -1000);
        Edges.due(Edges.tells(x, "ties 3;"), -2000);
        Edges.due(Edges.tells(x, "paper 5;free 0;"), -2008);
        Edges.due(Edges.tells(x, "paper 5;heavy 0 0;"), -2008);
        Edges.due(Edges.tells(x, "paper 5;heavy 0 10;"), -2008);
        Edges.due(Edges.tells(x, "limit 5;limit 5;"), -2008);
        for (int what = 11; what <= 16; what++) {
            Edges.due(x.count(what), 0);
        }
    }

    /** What is asked, within its bounds, leaves all as it was. */
    private static void askingChangesNothing() {
        Edges.sentence("nothing changes by asking");
        for (Edges.Making making : new Edges.Making[] {Edges::some, Edges::full}) {
            for (int loss = 0; loss <= 2; loss++) {
                int by = loss;
                asks(making, x -> x.value(by, 4, 0));
                asks(making, x -> x.grade(by, 4));
                asks(making, x -> x.change(by, 1));
                asks(making, x -> x.pool(by, 0));
                asks(making, x -> x.binds(by));
                asks(making, x -> x.worth(by, 2, 0));
                asks(making, x -> x.dearest(by));
                asks(making, x -> x.needs(by, 4, 0));
                asks(making, x -> x.needs(by, 0, 5));
                asks(making, x -> x.likely(by, 2, 20, 1));
                asks(making, x -> x.judge(by, 0));
            }
            for (int what = 0; what <= 1; what++) {
                int of = what;
                asks(making, x -> x.pairs(of));
                asks(making, x -> x.line(of, 3, 0));
                asks(making, x -> x.block(of, -1));
                asks(making, x -> x.block(of, 0));
                asks(making, x -> x.merges(of));
                asks(making, x -> x.lineChange(of, 0));
                asks(making, x -> x.whatIs(0, of));
                asks(making, x -> x.lots(20, Edges.MIN, of));
                asks(making, x -> x.says(of, -1));
                asks(making, x -> x.under(of, 4));
            }
            asks(making, x -> x.look(0, 5));
            asks(making, x -> x.look(0, 0));
            for (int what = -1; what <= 17; what++) {
                int of = what;
                asks(making, x -> x.count(of));
            }
        }
    }

    private static void asks(Edges.Making making, Edges.Call call) {
        Edges.onlyAsks(making, call, call.on(Edges.made(making)));
    }

    private static void counting() {
        Edges.sentence("count: 11 .. 16 REFUSALS -1 .. -6");
        LatticeGrader x = new LatticeGrader();
        for (int i = 0; i < 100; i++) {
            Edges.due(x.free(0), -1);
            Edges.due(x.count(11), i + 1);
        }
        for (int i = 0; i < 10; i++) {
            Edges.due(x.ties(3), -2);
            Edges.due(x.value(0, 0, 0), Edges.NOBODY);
            Edges.due(x.change(0, 2), Edges.OTHER);
            Edges.due(x.on(), -3);
            Edges.due(x.letter(-1), -4);
            Edges.due(x.letter(256), -6);
            Edges.due(x.count(11), 101 + i);
            Edges.due(x.count(12), 2 * i + 2);
            Edges.due(x.count(13), i + 1);
            Edges.due(x.count(14), i + 1);
            Edges.due(x.count(15), 0);
            Edges.due(x.count(16), i + 1);
        }
    }
}
