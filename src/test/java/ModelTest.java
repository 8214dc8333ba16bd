import java.util.ArrayDeque;
import java.util.Deque;
import java.util.Random;

/** Random runs of calls, LatticeGrader beside the Model; the same runs each time. */
public final class ModelTest {
    private static final int LAST_CALLS = 40;
    /** No object is used for more than 512 calls, and one step makes fewer than 40. */
    private static final int MOST_CALLS = 512 - 40;
    private static final String[] WORDS = {"paper", "kind", "heavy", "place", "rule", "free", "limit", "ties"};
    private static final int[] NUMBERS = {1, 3, 2, 2, 2, 1, 1, 1};

    private final Random random;
    private LatticeGrader real = new LatticeGrader();
    private Model model = new Model();
    private final Deque<String> last = new ArrayDeque<>();
    private boolean right = true;
    private int calls;
    /** What is told but has not come yet. */
    private String text = "";

    private ModelTest(long seed) {
        random = new Random(seed);
    }

    public static void main(String[] args) {
        int runs = args.length > 0 ? Integer.parseInt(args[0]) : 400;
        long first = args.length > 1 ? Long.parseLong(args[1]) : 1;
        int wrong = 0;
        for (long seed = first; seed < first + runs && wrong < 3; seed++) {
            if (!new ModelTest(seed).run()) {
                wrong++;
            }
        }
        System.out.println(wrong == 0 ? runs + " runs are as in the model" : wrong + " runs are not as in the model");
        if (wrong != 0) {
            System.exit(1);
        }
    }

    private boolean run() {
        int papers = random.nextInt(8);
        for (int p = 0; p < papers; p++) {
            addPaper();
        }
        int shape = random.nextInt(4);
        for (int r = 0; r < (shape == 0 ? 0 : shape * 5); r++) {
            addRule();
        }
        for (int l = random.nextInt(6); l > 0; l--) {
            int v = (6 - l) * 15 + random.nextInt(14);
            check("limit(" + v + ")", real.limit(v), model.limit(v));
        }
        while (calls < MOST_CALLS && right) {
            step();
        }
        if (!right) {
            System.out.println(String.join("\n", last));
        }
        return right;
    }

    private void check(String call, long got, long due) {
        calls++;
        last.add(call + " " + due);
        if (last.size() > LAST_CALLS) {
            last.remove();
        }
        if (got != due && right) {
            right = false;
            last.add("^ answered " + got + ", due " + due);
            last.add("papers " + model.now.papers + " rules " + model.now.rules + " limits " + model.now.limits
                + " ties " + model.now.ties + " row " + model.row);
        }
    }

    private boolean chance(int in) {
        return random.nextInt(in) == 0;
    }

    /** From least to most, now and then a little or far outside. */
    private int some(int least, int most) {
        int way = random.nextInt(60);
        if (way == 0) return least - 1;
        if (way == 1) return most + 1;
        if (way == 2) return random.nextBoolean() ? Integer.MAX_VALUE : Integer.MIN_VALUE;
        if (way == 3) return random.nextInt();
        return least + random.nextInt(Math.max(1, most - least + 1));
    }

    private int somePaper() {
        return some(0, Math.max(0, model.now.papers.size() - 1));
    }

    private int someRule() {
        return some(0, Math.max(0, model.now.rules.size() - 1));
    }

    private int someMark() {
        return chance(2) ? some(0, 99) : some(0, 9) * 10;
    }

    private void addPaper() {
        int v = someMark();
        check("paper(" + v + ")", real.paper(v), model.paper(v));
        int p = model.now.papers.size() - 1;
        if (chance(2)) {
            int k = some(0, 5);
            int f = some(0, 9);
            check("kind(" + p + ", " + k + ", " + f + ")", real.kind(p, k, f), model.kind(p, k, f));
        }
        if (chance(2)) {
            int h = some(1, 9);
            check("heavy(" + p + ", " + h + ")", real.heavy(p, h), model.heavy(p, h));
        }
        if (chance(2)) {
            int at = some(0, 9);
            check("place(" + p + ", " + at + ")", real.place(p, at), model.place(p, at));
        }
    }

    private void addRule() {
        int l = somePaper();
        int u = somePaper();
        check("rule(" + l + ", " + u + ")", real.rule(l, u), model.rule(l, u));
    }

    private void step() {
        if (!text.isEmpty()) {
            letter(text.charAt(0));
            text = text.substring(1);
            if (text.isEmpty()) {
                check("tells()", real.tells(), model.tells());
            }
            return;
        }
        switch (random.nextInt(4)) {
            case 0 -> changeSomething();
            case 1 -> askOfPapers();
            case 2 -> askByRules();
            default -> doTheRest();
        }
    }

    private void letter(int c) {
        check("letter(" + c + ")", real.letter(c), model.letter(c));
    }

    private String someText() {
        StringBuilder all = new StringBuilder();
        for (int s = random.nextInt(6); s >= 0; s--) {
            int w = random.nextInt(WORDS.length);
            all.append(WORDS[w]);
            for (int i = 0; i < NUMBERS[w]; i++) {
                int most = w == 0 || w == 6 ? 99 : chance(8) ? 12 : 7;
                int v = random.nextInt(most + 1);
                all.append(' ').append(chance(9) && v < 10 ? "0" : "").append(v);
            }
            all.append(';');
        }
        if (chance(3)) {
            int at = random.nextInt(all.length());
            all.setCharAt(at, " ;0paeku9\u00e9".charAt(random.nextInt(10)));
        }
        if (chance(6)) {
            all.setLength(random.nextInt(all.length()));
        }
        return all.toString();
    }

    private void changeSomething() {
        int p = somePaper();
        switch (random.nextInt(16)) {
            case 0 -> addPaper();
            case 1 -> {
                int k = some(0, 5);
                int f = some(0, 9);
                check("kind(" + p + ", " + k + ", " + f + ")", real.kind(p, k, f), model.kind(p, k, f));
            }
            case 2, 3 -> {
                int v = someMark();
                check("raw(" + p + ", " + v + ")", real.raw(p, v), model.raw(p, v));
            }
            case 4 -> {
                int v = some(1, 9);
                check("heavy(" + p + ", " + v + ")", real.heavy(p, v), model.heavy(p, v));
            }
            case 5 -> {
                int v = some(0, 9);
                check("place(" + p + ", " + v + ")", real.place(p, v), model.place(p, v));
            }
            case 6, 7, 8 -> addRule();
            case 9 -> {
                int r = someRule();
                check("free(" + r + ")", real.free(r), model.free(r));
            }
            case 10 -> {
                int v = some(1, 99);
                check("limit(" + v + ")", real.limit(v), model.limit(v));
            }
            case 11 -> {
                if (chance(5)) {
                    check("limits()", real.limits(), model.limits());
                }
            }
            case 12, 13 -> {
                int v = some(0, 2);
                check("ties(" + v + ")", real.ties(v), model.ties(v));
            }
            case 14 -> {
                text = someText();
                if (text.isEmpty()) {
                    check("tells()", real.tells(), model.tells());
                }
            }
            default -> {
                if (chance(3)) {
                    letter(some(0, 255));
                }
            }
        }
    }

    private void askOfPapers() {
        int p = somePaper();
        int loss = some(0, 1);
        int part = some(0, 1);
        switch (random.nextInt(10)) {
            case 0 -> {
                int what = some(0, 7);
                check("of(" + p + ", " + what + ")", real.of(p, what), model.of(p, what));
            }
            case 1 -> {
                int r = someRule();
                int what = some(0, 2);
                check("ruleOf(" + r + ", " + what + ")", real.ruleOf(r, what), model.ruleOf(r, what));
            }
            case 2 -> {
                int q = somePaper();
                check("under(" + p + ", " + q + ")", real.under(p, q), model.under(p, q));
            }
            case 3 -> check("pairs(" + part + ")", real.pairs(part), model.pairs(part));
            case 4, 5 -> check("line(" + loss + ", " + p + ", " + part + ")",
                real.line(loss, p, part), model.line(loss, p, part));
            case 6 -> {
                int i = some(-1, 6);
                check("block(" + loss + ", " + i + ")", real.block(loss, i), model.block(loss, i));
            }
            case 7 -> check("merges(" + loss + ")", real.merges(loss), model.merges(loss));
            case 8 -> check("lineChange(" + loss + ", " + part + ")",
                real.lineChange(loss, part), model.lineChange(loss, part));
            default -> {
                int what = chance(4) ? some(7, 17) : some(0, 16);
                check("count(" + what + ")", real.count(what), model.count(what));
            }
        }
    }

    private void askByRules() {
        int p = somePaper();
        int loss = some(0, 2);
        int part = some(0, 1);
        switch (random.nextInt(10)) {
            case 0, 1 -> check("value(" + loss + ", " + p + ", " + part + ")",
                real.value(loss, p, part), model.value(loss, p, part));
            case 2 -> check("grade(" + loss + ", " + p + ")", real.grade(loss, p), model.grade(loss, p));
            case 3 -> check("change(" + loss + ", " + part + ")", real.change(loss, part), model.change(loss, part));
            case 4 -> check("pool(" + loss + ", " + p + ")", real.pool(loss, p), model.pool(loss, p));
            case 5 -> check("binds(" + loss + ")", real.binds(loss), model.binds(loss));
            case 6 -> {
                int r = someRule();
                check("worth(" + loss + ", " + r + ", " + part + ")",
                    real.worth(loss, r, part), model.worth(loss, r, part));
            }
            case 7 -> check("dearest(" + loss + ")", real.dearest(loss), model.dearest(loss));
            case 8 -> {
                int t = some(2, 20);
                check("likely(" + loss + ", " + p + ", " + t + ", " + part + ")",
                    real.likely(loss, p, t, part), model.likely(loss, p, t, part));
            }
            default -> {
                int g = some(0, 5);
                if (chance(4)) {
                    check("needs(" + loss + ", " + p + ", " + g + ")", real.needs(loss, p, g), model.needs(loss, p, g));
                }
            }
        }
    }

    private void doTheRest() {
        int p = somePaper();
        int s = some(0, 3);
        int loss = some(0, 2);
        switch (random.nextInt(14)) {
            case 0 -> sayAll(p);
            case 1 -> {
                int what = some(0, 1);
                check("whatIs(" + p + ", " + what + ")", real.whatIs(p, what), model.whatIs(p, what));
            }
            case 2 -> {
                int v = some(0, 120);
                // Now and then the number that would fit the paper.
                if (model.now.has(p) && chance(2)) {
                    Model.Paper like = model.now.papers.get(p).copy();
                    like.raw = 10 * model.row.size();
                    v = like.mark();
                }
                check("row(" + v + ")", real.row(v), model.row(v));
            }
            case 3 -> {
                if (chance(4)) {
                    check("clear()", real.clear(), model.clear());
                }
            }
            case 4 -> {
                int n = some(1, 20);
                int z = random.nextInt();
                int what = some(0, 1);
                if (chance(3)) {
                    check("lots(" + n + ", " + z + ", " + what + ")", real.lots(n, z, what), model.lots(n, z, what));
                }
            }
            case 5 -> {
                int n = chance(3) ? 20 : some(0, 20);
                check("shelf(" + s + ", " + n + ")", real.shelf(s, n), model.shelf(s, n));
            }
            case 6 -> {
                int i = some(0, 19);
                long v = chance(2) ? random.nextLong() : some(0, 99);
                check("put(" + s + ", " + i + ", " + v + ")", real.put(s, i, v), model.put(s, i, v));
            }
            case 7 -> {
                int i = some(0, 19);
                check("look(" + s + ", " + i + ")", real.look(s, i), model.look(s, i));
            }
            case 8, 9 -> {
                int i = chance(2) ? 0 : some(0, 19);
                check("lays(" + loss + ", " + s + ", " + i + ")", real.lays(loss, s, i), model.lays(loss, s, i));
            }
            case 10, 11 -> check("judge(" + loss + ", " + s + ")", real.judge(loss, s), model.judge(loss, s));
            case 12 -> {
                if (chance(4)) {
                    check("image()", real.image(), model.image());
                }
            }
            default -> {
                if (chance(4)) {
                    check("on()", real.on(), model.on());
                }
            }
        }
    }

    private void sayAll(int p) {
        int i = some(-1, 30);
        check("says(" + p + ", " + i + ")", real.says(p, i), model.says(p, i));
        if (model.now.has(p)) {
            String said = model.said(p);
            check("says(" + p + ", -1)", real.says(p, -1), said.length());
            for (int k = 0; k < said.length(); k++) {
                check("says(" + p + ", " + k + ") of " + said, real.says(p, k), said.charAt(k));
            }
        }
    }
}
