import java.util.ArrayList;
import java.util.List;

/** What the tests of the document's edges share: the sentence that is tested, answers that are due, refused calls. */
final class Edges {
    static final int MIN = Integer.MIN_VALUE;
    static final int MAX = Integer.MAX_VALUE;
    static final long REFUSED = 4000000000000000000L;
    static final long NOBODY = REFUSED + 1;
    static final long OTHER = REFUSED + 2;
    static final long BELOW = REFUSED + 4;
    static final long ROOM = REFUSED + 6;
    static final long MISSING = REFUSED + 11;
    static final long NO_PLACE = REFUSED + 13;

    /** What is done with a new object ahead of what is asked. */
    interface Making {
        void of(LatticeGrader x);
    }

    interface Call {
        long on(LatticeGrader x);
    }

    private static String sentence = "";
    private static int row;
    private static int asked;
    private static int wrong;

    private Edges() {
    }

    /** The words of the document that the next rows test. */
    static void sentence(String words) {
        sentence = words;
        row = 0;
    }

    static void due(long got, long want) {
        due("", got, want);
    }

    static void due(String call, long got, long want) {
        row++;
        asked++;
        if (got != want) {
            wrong++;
            System.out.println("\"" + sentence + "\", row " + row + " " + call + ": answered " + got + ", due is " + want);
        }
    }

    static void dueText(String got, String want) {
        row++;
        asked++;
        if (!got.equals(want)) {
            wrong++;
            System.out.println("\"" + sentence + "\", row " + row + ": said " + got + ", due is " + want);
        }
    }

    /** Part 0 and part 1. */
    static void dueFraction(long above, long below, long wantAbove, long wantBelow) {
        due("above", above, wantAbove);
        due("below", below, wantBelow);
    }

    static void end() {
        System.out.println(asked + " answers asked, " + wrong + " not as due");
        if (wrong != 0) {
            System.exit(1);
        }
    }

    static LatticeGrader made(Making making) {
        LatticeGrader x = new LatticeGrader();
        making.of(x);
        return x;
    }

    /** A grader with PAPERS of these RAWS. */
    static LatticeGrader with(int... raws) {
        return made(x -> papers(x, raws));
    }

    static void papers(LatticeGrader x, int... raws) {
        for (int raw : raws) {
            x.paper(raw);
        }
    }

    static void letters(LatticeGrader x, String text) {
        for (int i = 0; i < text.length(); i++) {
            x.letter(text.charAt(i));
        }
    }

    static int tells(LatticeGrader x, String text) {
        letters(x, text);
        return x.tells();
    }

    static String said(LatticeGrader x, int paper) {
        StringBuilder all = new StringBuilder();
        int many = x.says(paper, -1);
        for (int i = 0; i < many; i++) {
            all.append((char) x.says(paper, i));
        }
        return all.toString();
    }

    // ---- refused calls, and calls that only ask

    /** Nothing at all, a bit of everything, everything to the full: what refused calls are tried on. */
    static void empty(LatticeGrader x) {
    }

    static void some(LatticeGrader x) {
        someWithoutLetters(x);
        letters(x, "paper 5;ru");
    }

    /** 5 PAPERS, 3 RULES, 4 LIMITS, SHELVES 0 of six longs and 1 of none; the image is another one. */
    static void someWithoutLetters(LatticeGrader x) {
        papers(x, 80, 20, 75, 40);
        x.kind(0, 4, 3);
        x.kind(1, 5, 2);
        x.kind(2, 3, 4);
        x.heavy(0, 2);
        x.place(3, 1);
        x.rule(0, 1);
        x.rule(1, 2);
        x.rule(3, 2);
        x.limit(30);
        x.limit(50);
        x.limit(90);
        x.ties(1);
        x.image();
        x.paper(60);
        x.raw(0, 70);
        x.heavy(3, 7);
        x.place(4, 0);
        x.rule(3, 4);
        x.free(0);
        x.limit(95);
        x.ties(2);
        x.row(3);
        x.row(13);
        x.row(23);
        x.shelf(0, 6);
        x.put(0, 0, 93);
        x.put(0, 5, -4000000000000000011L);
        x.shelf(1, 0);
        x.of(5, 0);
        x.ties(3);
        x.rule(1, 2);
        x.raw(0, -1);
        x.raw(0, 100);
    }

    /** No room for a PAPER, RULE, LIMIT, letter, number of the ROW, and SHELVES of 20. */
    static void full(LatticeGrader x) {
        papers(x, 99, 88, 77, 66, 55, 44, 33);
        for (int u = 1; u < 7; u++) {
            x.rule(0, u);
        }
        for (int u = 2; u < 7; u++) {
            x.rule(1, u);
        }
        x.rule(2, 3);
        for (int l = 0; l < 5; l++) {
            x.limit(20 + 19 * l);
        }
        for (int i = 0; i < 10; i++) {
            x.row(10 * i);
        }
        for (int s = 0; s < 4; s++) {
            x.shelf(s, 20);
            x.put(s, 19, s + 7);
        }
        letters(x, "paper 1;".repeat(15));
        x.image();
    }

    static final List<Making> ANYWHERE = List.of(Edges::empty, Edges::some, Edges::full);

    /** The call answers so; it is counted, if it is -1 .. -6; nothing else is other than without it. */
    static void refused(Making making, Call call, long want) {
        LatticeGrader x = made(making);
        due("refused", call.on(x), want);
        long number = want >= REFUSED ? want - REFUSED : -want;
        same(making, call, (int) (number <= 6 ? number : 0));
    }

    static void refusedAnywhere(Call call, long want) {
        for (Making making : ANYWHERE) {
            refused(making, call, want);
        }
    }

    /** The call answers so and nothing is otherwise, nor is a REFUSAL counted. */
    static void onlyAsks(Making making, Call call, long want) {
        due("asked", call.on(made(making)), want);
        same(making, call, 0);
    }

    /** With the call all is as without it, but for one REFUSAL more of this number. */
    private static void same(Making making, Call call, int counted) {
        List<Long> without = told(making, x -> 0);
        List<Long> with = told(making, call);
        for (int i = 0; i < without.size(); i++) {
            due("told " + i, with.get(i), without.get(i) + (i < 6 && i + 1 == counted ? 1 : 0));
        }
    }

    /** The REFUSALS first, then all that can be told of the object; no object is asked too often. */
    private static List<Long> told(Making making, Call call) {
        List<Long> all = new ArrayList<>();
        LatticeGrader x = made(making);
        call.on(x);
        for (int what = 11; what <= 16; what++) {
            all.add((long) x.count(what));
        }
        tellSheet(x, all);
        tellShelves(x, all);
        x = made(making);
        call.on(x);
        tellRow(x, all);
        tellLimits(x, all);
        x = made(making);
        call.on(x);
        all.add((long) x.tells());
        all.add((long) x.count(4));
        tellSheet(x, all);
        x = made(making);
        call.on(x);
        all.add((long) x.on());
        tellSheet(x, all);
        return all;
    }

    private static void tellSheet(LatticeGrader x, List<Long> all) {
        for (int what = 0; what <= 6; what++) {
            all.add((long) x.count(what));
        }
        for (int p = 0; p < 7; p++) {
            for (int what = 0; what <= 7; what++) {
                all.add((long) x.of(p, what));
            }
        }
        for (int r = 0; r < 12; r++) {
            all.add((long) x.ruleOf(r, 0));
            all.add((long) x.ruleOf(r, 1));
        }
    }

    private static void tellShelves(LatticeGrader x, List<Long> all) {
        for (int s = 0; s < 4; s++) {
            for (int i = 0; i < 21; i++) {
                all.add(x.look(s, i));
            }
        }
    }

    private static void tellRow(LatticeGrader x, List<Long> all) {
        for (int p = 0; p < 7; p++) {
            all.add((long) x.whatIs(p, 0));
            all.add((long) x.whatIs(p, 1));
        }
    }

    /** By which MARKS the GRADE becomes another one. */
    private static void tellLimits(LatticeGrader x, List<Long> all) {
        x.paper(0);
        x.kind(0, 0, 0);
        for (int v = 0; v < 100; v++) {
            x.raw(0, v);
            all.add((long) x.of(0, 7));
        }
    }
}
