/** Promise by promise: ordinary inputs, the edges that the document names, wrong inputs; each answer written out. */
public final class PromisesTest {
    private static final long NOBODY = 4000000000000000001L;
    private static final long OTHER = 4000000000000000002L;
    private static final long BELOW = 4000000000000000004L;
    private static final long ROOM = 4000000000000000006L;
    private static final int MIN = Integer.MIN_VALUE;
    private static final int MAX = Integer.MAX_VALUE;

    private static int promise;
    private static int row;
    private static int asked;
    private static int wrong;

    private static void begin(int number) {
        promise = number;
        row = 0;
    }

    private static void due(long got, long want) {
        row++;
        asked++;
        if (got != want) {
            wrong++;
            System.out.println("promise " + promise + ", row " + row + ": answered " + got + ", due is " + want);
        }
    }

    /** A grader with PAPERS of these MARKS. */
    private static LatticeGrader with(int... raws) {
        LatticeGrader x = new LatticeGrader();
        for (int raw : raws) {
            x.paper(raw);
        }
        return x;
    }

    /** How many REFUSALS -1, -2, -3, -4, -6 there were. */
    private static void refused(LatticeGrader x, int nobody, int other, int state, int below, int room) {
        due(x.count(11), nobody);
        due(x.count(12), other);
        due(x.count(13), state);
        due(x.count(14), below);
        due(x.count(15), 0);
        due(x.count(16), room);
    }

    private static int tells(LatticeGrader x, String text) {
        for (int i = 0; i < text.length(); i++) {
            x.letter(text.charAt(i));
        }
        return x.tells();
    }

    private static String said(LatticeGrader x, int paper) {
        StringBuilder all = new StringBuilder();
        int many = x.says(paper, -1);
        for (int i = 0; i < many; i++) {
            all.append((char) x.says(paper, i));
        }
        return all.toString();
    }

    private static void dueText(String got, String want) {
        row++;
        asked++;
        if (!got.equals(want)) {
            wrong++;
            System.out.println("promise " + promise + ", row " + row + ": said " + got + ", due is " + want);
        }
    }

    /** Part 0 and part 1. */
    private static void dueFraction(long above, long below, long wantAbove, long wantBelow) {
        due(above, wantAbove);
        due(below, wantBelow);
    }

    public static void main(String[] args) {
        newObjects();
        letters();
        statements();
        refusedStatements();
        papers();
        kinds();
        numbersOfPapers();
        rules();
        limitsAndTies();
        told();
        undersAndPairs();
        lineFree();
        lineTies();
        lineRefusals();
        values();
        grades();
        changes();
        pools();
        worths();
        needs();
        likely();
        says();
        whatKind();
        rows();
        lots();
        shelves();
        laid();
        judged();
        images();
        counts();
        System.out.println(asked + " answers asked, " + wrong + " not as due");
        if (wrong != 0) {
            System.exit(1);
        }
    }

    private static void newObjects() {
        begin(1);
        LatticeGrader x = new LatticeGrader();
        for (int what = 0; what <= 6; what++) {
            due(x.count(what), 0);
        }
        refused(x, 0, 0, 0, 0, 0);
        due(x.block(0, -1), 0);
        due(x.merges(1), 0);
        dueFraction(x.lineChange(0, 0), x.lineChange(0, 1), 0, 1);
        dueFraction(x.change(2, 0), x.change(2, 1), 0, 1);
        due(x.pairs(0), 0);
        due(x.pairs(1), 0);
        due(x.binds(0), 0);
        due(x.dearest(0), -9);
        due(x.lots(20, 7, 1), 0);
        due(x.clear(), 0);
        due(x.limits(), 0);
        due(x.look(3, 0), 4000000000000000011L);
        due(x.of(0, 0), -1);
        due(x.on(), -3);
        due(x.image(), 0);
        due(x.on(), 0);
    }

    private static void letters() {
        begin(2);
        LatticeGrader x = new LatticeGrader();
        due(x.letter(0), 1);
        due(x.letter(255), 2);
        due(x.letter(-1), -4);
        due(x.letter(MIN), -4);
        due(x.letter(256), -6);
        due(x.letter(MAX), -6);
        due(x.count(4), 2);
        for (int i = 3; i <= 120; i++) {
            due(x.letter(65), i);
        }
        due(x.letter(65), -6);
        due(x.letter(-1), -4);
        due(x.count(4), 120);
        refused(x, 0, 0, 0, 3, 3);
        due(x.tells(), -1000);
        due(x.letter(65), 1);
    }

    private static void statements() {
        begin(3);
        LatticeGrader x = new LatticeGrader();
        due(tells(x, "paper 07;paper 60;rule 0 1;heavy 0 9;place 1 3;kind 0 5 2;limit 5;limit 50;ties 2;"), 9);
        due(x.count(4), 0);
        due(x.of(0, 0), 7);
        due(x.of(0, 1), 5);
        due(x.of(0, 2), 2);
        due(x.of(0, 3), 9);
        due(x.of(1, 0), 60);
        due(x.of(1, 4), 3);
        due(x.ruleOf(0, 1), 1);
        due(x.count(2), 2);
        due(x.count(3), 2);
        due(tells(x, "free 0;"), 1);
        due(x.count(1), 0);
        int[] ends = {-1000, -1000, -1000, -1000, -1001, -1002, -1003, -1005, -1005, -1005, -1005, -1006, -1006, -1006,
            -1007, -1007, -1008, -1008, -1008, -1008, -1006, -1009, -1008, -1006, -1001, -1008};
        String[] texts = {"", ";", "Paper 1;", " paper 1;", "p", "pl", "plaper 1;", "paper", "paper;", "papers 1;",
            "paper:1;", "paper  1;", "paper ;", "paper -1;", "paper 1", "paper 1 ;", "paper 100;", "paper 12",
            "kind 0 1;", "paper 1; paper 1;", "ties 0,", "heavy 0 0 0;", "paper 1;;", "free 0 1;", "l", "paper 1;\u00e9"};
        for (int i = 0; i < texts.length; i++) {
            due(tells(x, texts[i]), ends[i]);
            due(x.count(4), 0);
        }
        due(x.count(0), 2);
        due(tells(x, "ties 3;x"), -1007);
        refused(x, 0, 0, 0, 0, 0);
        // The whole of 120 letters.
        LatticeGrader y = new LatticeGrader();
        due(tells(y, "paper 11;limit 10;limit 11;limit 12;paper 22;paper 33;rule 0 1;rule 1 2;free 00;free 00;"
            + "ties 1;ties 2;ties 0;ties 02;ties 1;"), -1120);
        due(tells(y, "paper 11;limit 10;limit 11;limit 12;paper 22;paper 33;rule 0 1;rule 1 2;free 00;free 0;"
            + "ties 1;ties 2;ties 0;ties 01;"), 14);
        due(y.count(0), 3);
        due(y.count(3), 1);
    }

    private static void refusedStatements() {
        begin(3);
        LatticeGrader x = new LatticeGrader();
        due(tells(x, "paper 5;kind 0 6 0;"), -2008);
        due(x.count(0), 0);
        due(tells(x, "paper 5;kind 0 0 10;"), -2008);
        due(tells(x, "paper 5;kind 1 0 0;"), -2008);
        due(tells(x, "paper 5;heavy 0 0;"), -2008);
        due(tells(x, "paper 5;heavy 0 10;"), -2008);
        due(tells(x, "paper 5;place 0 10;"), -2008);
        due(tells(x, "paper 5;place 1 1;"), -2008);
        due(tells(x, "paper 5;rule 0 0;"), -2008);
        due(tells(x, "rule 0 1;paper 5;paper 5;"), -2000);
        due(tells(x, "paper 5;paper 6;rule 0 1;free 1;"), -2025);
        due(tells(x, "limit 0;"), -2000);
        due(tells(x, "limit 9;limit 09;"), -2008);
        due(tells(x, "ties 3;"), -2000);
        due(tells(x, "limit 1;limit 2;limit 3;limit 4;limit 5;limit 6;"), -2040);
        due(x.count(2), 0);
        due(tells(x, "ties 2;paper 9;ties 9;"), -2015);
        due(x.count(3), 0);
        refused(x, 0, 0, 0, 0, 0);
        x = new LatticeGrader();
        due(tells(x, "paper 1;paper 2;paper 3;paper 4;paper 5;paper 6;paper 7;paper 8;"), -2056);
        due(x.count(0), 0);
        due(tells(x, "paper 1;paper 2;paper 3;paper 4;paper 5;paper 6;paper 7;"), 7);
        due(tells(x, "ties 1;paper 8;"), -2007);
        due(tells(x, "rule 0 1;rule 1 2;rule 2 0;"), -2018);
        due(x.count(1), 0);
        refused(x, 0, 0, 0, 0, 0);
        // What came with calls goes on in a text, and the image is left alone by a FAULT.
        due(x.limit(50), 1);
        due(x.image(), 7);
        due(tells(x, "limit 50;"), -2000);
        due(tells(x, "raw 0 1;"), -1001);
        due(tells(x, "limit 51;"), 1);
        due(x.on(), 7);
        due(x.count(2), 1);
    }

    private static void papers() {
        begin(4);
        LatticeGrader x = new LatticeGrader();
        due(x.paper(-1), -4);
        due(x.paper(MIN), -4);
        due(x.paper(100), -6);
        due(x.paper(MAX), -6);
        due(x.paper(0), 0);
        due(x.paper(99), 1);
        for (int p = 2; p < 7; p++) {
            due(x.paper(10 * p), p);
        }
        due(x.paper(5), -6);
        due(x.paper(-5), -4);
        due(x.count(0), 7);
        int[] atFirst = {20, 0, 0, 1, 2, 20, 1, 0};
        for (int what = 0; what < 8; what++) {
            due(x.of(2, what), atFirst[what]);
        }
        refused(x, 0, 0, 0, 3, 3);
    }

    private static void kinds() {
        begin(5);
        LatticeGrader x = with(69, 70, 10);
        due(x.kind(3, 9, -1), -1);
        due(x.kind(-1, 0, 0), -1);
        due(x.kind(0, -1, -1), -2);
        due(x.kind(0, 6, 10), -2);
        due(x.kind(0, 0, -1), -4);
        due(x.kind(0, 0, 10), -6);
        refused(x, 2, 2, 0, 1, 1);
        due(x.kind(0, 1, 9), 0);
        due(x.of(0, 5), 78);
        due(x.kind(0, 4, 9), 19);
        due(x.of(0, 5), 78);
        due(x.kind(1, 4, 0), 0);
        due(x.of(1, 5), 80);
        due(x.kind(1, 4, 9), 40);
        due(x.of(1, 5), 89);
        due(x.kind(2, 2, 3), 0);
        due(x.of(2, 5), 1);
        due(x.kind(2, 2, 4), 23);
        due(x.of(2, 5), 0);
        due(x.kind(2, 3, 9), 24);
        due(x.of(2, 5), 0);
        due(x.kind(1, 3, 6), 49);
        due(x.of(1, 5), 50);
        due(x.kind(1, 3, 7), 36);
        due(x.of(1, 5), 49);
        due(x.kind(1, 5, 7), 37);
        due(x.of(1, 5), 70);
        due(x.kind(1, 0, 7), 57);
        due(x.of(1, 5), 70);
        // WEIGHTS of HEAVY 1 .. 9 by each KIND.
        int[][] weights = {{1, 4, 5, 9}, {1, 4, 5, 9}, {1, 2, 3, 5}, {2, 3, 4, 6}, {1, 4, 5, 9}, {2, 8, 10, 18}};
        int[] heavies = {1, 4, 5, 9};
        for (int kind = 0; kind < 6; kind++) {
            x.kind(0, kind, 0);
            for (int i = 0; i < 4; i++) {
                x.heavy(0, heavies[i]);
                due(x.of(0, 6), weights[kind][i]);
            }
        }
    }

    private static void numbersOfPapers() {
        begin(6);
        LatticeGrader x = with(10, 20);
        due(x.raw(1, 99), 20);
        due(x.raw(1, 0), 99);
        due(x.raw(2, -1), -1);
        due(x.raw(-1, 100), -1);
        due(x.raw(1, -1), -4);
        due(x.raw(1, 100), -6);
        due(x.of(1, 0), 0);
        due(x.of(0, 0), 10);
        refused(x, 2, 0, 0, 1, 1);
        begin(7);
        due(x.heavy(1, 9), 1);
        due(x.heavy(1, 1), 9);
        due(x.heavy(2, 0), -1);
        due(x.heavy(1, 0), -4);
        due(x.heavy(1, 10), -6);
        due(x.of(1, 3), 1);
        refused(x, 3, 0, 0, 2, 2);
        begin(8);
        due(x.place(1, 9), 1);
        due(x.place(1, 0), 9);
        due(x.place(-1, -1), -1);
        due(x.place(1, -1), -4);
        due(x.place(1, 10), -6);
        due(x.of(1, 4), 0);
        refused(x, 4, 0, 0, 3, 3);
    }

    private static void rules() {
        begin(9);
        LatticeGrader x = with(1, 2, 3, 4, 5, 6, 7);
        due(x.rule(0, 7), -1);
        due(x.rule(7, 0), -1);
        due(x.rule(-1, 0), -1);
        due(x.rule(3, 3), -1);
        due(x.rule(0, 1), 0);
        due(x.rule(0, 1), -3);
        due(x.rule(1, 0), -3);
        due(x.rule(1, 2), 1);
        due(x.rule(2, 0), -3);
        due(x.rule(0, 2), 2);
        for (int u = 3; u < 7; u++) {
            due(x.rule(0, u), u);
            due(x.count(1), u + 1);
        }
        for (int u = 3; u < 7; u++) {
            due(x.rule(1, u), u + 4);
        }
        due(x.rule(2, 3), 11);
        due(x.rule(2, 4), -6);
        due(x.rule(2, 2), -1);
        due(x.rule(2, 3), -3);
        due(x.rule(3, 1), -3);
        refused(x, 5, 0, 5, 0, 1);
        begin(10);
        due(x.free(12), -1);
        due(x.free(-1), -1);
        due(x.free(0), 11);
        due(x.ruleOf(0, 0), 1);
        due(x.ruleOf(0, 1), 2);
        due(x.ruleOf(10, 0), 2);
        due(x.ruleOf(10, 1), 3);
        due(x.ruleOf(11, 0), -1);
        due(x.free(10), 10);
        due(x.rule(0, 1), 10);
        due(x.rule(2, 3), 11);
        LatticeGrader y = new LatticeGrader();
        due(y.free(0), -1);
        refused(y, 1, 0, 0, 0, 0);
    }

    private static void limitsAndTies() {
        begin(11);
        LatticeGrader x = new LatticeGrader();
        due(x.limit(0), -4);
        due(x.limit(100), -6);
        due(x.limit(1), 1);
        due(x.limit(1), -3);
        due(x.limit(20), 2);
        due(x.limit(19), -3);
        due(x.limit(21), 3);
        due(x.limit(98), 4);
        due(x.limit(99), 5);
        due(x.limit(99), -6);
        due(x.limit(0), -4);
        due(x.limit(5), -6);
        refused(x, 0, 0, 2, 2, 3);
        begin(12);
        due(x.limits(), 5);
        due(x.limits(), 0);
        due(x.limit(7), 1);
        due(x.limits(), 1);
        begin(13);
        due(x.ties(2), 0);
        due(x.ties(1), 2);
        due(x.ties(3), -2);
        due(x.ties(-1), -2);
        due(x.ties(0), 1);
        due(x.ties(0), 0);
        due(x.count(12), 2);
    }

    private static void told() {
        begin(14);
        LatticeGrader x = with(60, 49, 50);
        x.limit(50);
        x.limit(60);
        x.kind(0, 1, 4);
        x.heavy(0, 3);
        x.place(0, 8);
        int[] due = {60, 1, 4, 3, 8, 64, 3, 2};
        for (int what = 0; what < 8; what++) {
            due(x.of(0, what), due[what]);
        }
        due(x.of(1, 7), 0);
        due(x.of(2, 7), 1);
        due(x.of(0, 8), -2);
        due(x.of(0, -1), -2);
        due(x.of(3, 8), -1);
        due(x.of(-1, 0), -1);
        begin(15);
        x.rule(0, 1);
        x.rule(1, 2);
        due(x.ruleOf(0, 0), 0);
        due(x.ruleOf(0, 1), 1);
        due(x.ruleOf(0, 2), 1);
        due(x.ruleOf(1, 2), 0);
        x.raw(1, 50);
        due(x.ruleOf(1, 2), 0);
        x.raw(1, 51);
        due(x.ruleOf(1, 2), 1);
        due(x.ruleOf(0, 3), -2);
        due(x.ruleOf(0, -1), -2);
        due(x.ruleOf(2, 3), -1);
        due(x.ruleOf(-1, 0), -1);
        refused(x, 4, 4, 0, 0, 0);
    }

    private static void undersAndPairs() {
        begin(16);
        LatticeGrader x = with(90, 50, 50, 10, 40);
        x.rule(0, 1);
        x.rule(1, 2);
        x.rule(2, 3);
        due(x.under(0, 1), 1);
        due(x.under(0, 3), 1);
        due(x.under(3, 0), 0);
        due(x.under(0, 4), 0);
        due(x.under(0, 0), -1);
        due(x.under(0, 5), -1);
        due(x.under(-1, 0), -1);
        due(x.count(11), 3);
        x.free(1);
        due(x.under(0, 3), 0);
        due(x.under(2, 3), 1);
        x.rule(1, 2);
        begin(17);
        // 0 above 1, 2, 3, and 1, 2 above 3: 0 and 3 meet them all.
        due(x.pairs(0), 5);
        due(x.pairs(1), 9);
        due(x.pairs(2), -2);
        due(x.pairs(-1), -2);
        due(x.count(12), 2);
        LatticeGrader y = with(80, 20);
        y.rule(0, 1);
        due(y.pairs(0), 1);
        due(y.pairs(1), 1);
        y.raw(0, 20);
        due(y.pairs(0), 0);
        due(y.pairs(1), 0);
        LatticeGrader back = with(20, 80);
        back.rule(1, 0);
        due(back.pairs(0), 1);
        // One fan: the middle one alone is fewer than its three.
        LatticeGrader z = with(60, 70, 80, 5);
        z.rule(0, 3);
        z.rule(1, 3);
        z.rule(2, 3);
        due(z.pairs(1), 8);
    }

    private static void lineFree() {
        begin(18);
        LatticeGrader x = with(50, 40, 60);
        x.heavy(0, 2);
        dueFraction(x.line(0, 0, 0), x.line(0, 0, 1), 140, 3);
        dueFraction(x.line(0, 1, 0), x.line(0, 1, 1), 140, 3);
        dueFraction(x.line(0, 2, 0), x.line(0, 2, 1), 60, 1);
        due(x.line(1, 1, 0), 50);
        x.heavy(0, 1);
        dueFraction(x.line(0, 1, 0), x.line(0, 1, 1), 45, 1);
        due(x.line(1, 0, 0), 40);
        begin(19);
        due(x.block(0, -1), 2);
        due(x.block(0, 0), 3);
        due(x.block(0, 1), 4);
        due(x.block(0, 2), -1);
        begin(20);
        due(x.merges(0), 1);
        // Not below: a like NUMBER is merged, too.
        due(with(40, 40, 41).merges(0), 1);
        due(with(40, 40, 41).merges(1), 1);
        due(with(40, 41, 42).merges(0), 0);
        due(with(9, 8, 7, 6, 5, 4, 3).merges(0), 6);
        // From the front anew: 30 20 become 25, that is merged with 25.
        LatticeGrader y = with(25, 30, 20);
        due(y.merges(0), 2);
        due(y.block(0, 0), 7);
        // By MIDDLES, {30, 20} is 20 and goes under 25.
        due(y.merges(1), 2);
        due(y.line(1, 0, 0), 25);
        LatticeGrader z = with(25, 30, 26, 1);
        due(z.block(1, -1), 2);
        due(z.line(1, 3, 0), 26);
        begin(21);
        dueFraction(x.lineChange(0, 0), x.lineChange(0, 1), 50, 1);
        dueFraction(x.lineChange(1, 0), x.lineChange(1, 1), 10, 1);
        x.heavy(0, 2);
        dueFraction(x.lineChange(0, 0), x.lineChange(0, 1), 200, 3);
        dueFraction(x.lineChange(1, 0), x.lineChange(1, 1), 10, 1);
        begin(19);
        // A block's WEIGHTS go with it: 61 by 3 is above 180 by 9.
        LatticeGrader v = with(10, 30, 1, 20);
        v.heavy(1, 2);
        v.heavy(3, 9);
        due(v.block(0, 0), 1);
        due(v.block(0, 1), 14);
        dueFraction(v.line(0, 3, 0), v.line(0, 3, 1), 241, 12);
        // FREE: by PLACES, of alike ones by MARKS, then by numbers.
        LatticeGrader w = with(70, 30, 70, 10);
        w.place(0, 4);
        w.place(1, 4);
        w.place(2, 4);
        w.place(3, 9);
        due(w.block(0, 0), 2);
        due(w.block(0, 1), 13);
        w.raw(3, 95);
        due(w.block(0, -1), 3);
        due(w.block(0, 0), 2);
        due(w.block(0, 1), 5);
        due(w.block(0, 2), 8);
    }

    private static void lineTies() {
        LatticeGrader x = with(30, 50, 35);
        x.place(0, 1);
        begin(18);
        dueFraction(x.line(0, 0, 0), x.line(0, 0, 1), 30, 1);
        dueFraction(x.line(0, 1, 0), x.line(0, 1, 1), 85, 2);
        dueFraction(x.line(0, 2, 0), x.line(0, 2, 1), 85, 2);
        x.ties(1);
        for (int p = 0; p < 3; p++) {
            dueFraction(x.line(0, p, 0), x.line(0, p, 1), 115, 3);
        }
        due(x.merges(0), 1);
        due(x.line(1, 0, 0), 30);
        due(x.line(1, 2, 0), 35);
        due(x.merges(1), 0);
        x.ties(2);
        dueFraction(x.line(0, 0, 0), x.line(0, 0, 1), 85, 3);
        dueFraction(x.line(0, 1, 0), x.line(0, 1, 1), 145, 3);
        dueFraction(x.line(0, 2, 0), x.line(0, 2, 1), 115, 3);
        due(x.line(1, 0, 0), 30);
        due(x.line(1, 1, 0), 50);
        begin(21);
        dueFraction(x.lineChange(0, 0), x.lineChange(0, 1), 50, 3);
        dueFraction(x.lineChange(1, 0), x.lineChange(1, 1), 0, 1);
        x.ties(1);
        dueFraction(x.lineChange(1, 0), x.lineChange(1, 1), 20, 1);
        begin(21);
        // PLACE 9 as any other.
        LatticeGrader nine = with(50, 30);
        nine.place(0, 9);
        nine.place(1, 9);
        dueFraction(nine.lineChange(0, 0), nine.lineChange(0, 1), 0, 1);
        nine.ties(1);
        dueFraction(nine.lineChange(0, 0), nine.lineChange(0, 1), 200, 1);
        begin(19);
        due(nine.block(0, -1), 1);
        due(nine.block(0, 0), 3);
        begin(18);
        // By MEANS a VALUE may be below 0.
        LatticeGrader y = with(0, 40, 40, 0);
        y.place(1, 0);
        y.place(2, 0);
        y.place(3, 1);
        y.heavy(3, 9);
        y.ties(2);
        due(y.line(1, 0, 0), -40);
        due(y.line(1, 1, 0), 0);
        // MEAN 40 of 12 WEIGHTS 80: 0 and 80 by 12, less 80 by 3.
        dueFraction(y.line(0, 0, 0), y.line(0, 0, 1), -20, 1);
        dueFraction(y.line(0, 3, 0), y.line(0, 3, 1), 20, 3);
    }

    private static void lineRefusals() {
        LatticeGrader x = with(10);
        begin(18);
        due(x.line(2, 5, 5), OTHER);
        due(x.line(-1, 0, 0), OTHER);
        due(x.line(0, 1, 2), NOBODY);
        due(x.line(1, -1, 0), NOBODY);
        due(x.line(0, 0, 2), OTHER);
        due(x.line(0, 0, -1), OTHER);
        refused(x, 2, 4, 0, 0, 0);
        begin(19);
        due(x.block(2, -2), -2);
        due(x.block(0, -2), -1);
        due(x.block(1, 1), -1);
        refused(x, 4, 5, 0, 0, 0);
        begin(20);
        due(x.merges(2), -2);
        due(x.merges(-1), -2);
        begin(21);
        due(x.lineChange(2, 0), OTHER);
        due(x.lineChange(0, 2), OTHER);
        due(x.lineChange(1, -1), OTHER);
        refused(x, 4, 10, 0, 0, 0);
    }

    private static void values() {
        begin(22);
        LatticeGrader x = with(81, 20, 50);
        x.rule(0, 1);
        dueFraction(x.value(0, 0, 0), x.value(0, 0, 1), 101, 2);
        dueFraction(x.value(1, 0, 0), x.value(1, 1, 0), 20, 20);
        dueFraction(x.value(2, 1, 0), x.value(2, 1, 1), 101, 2);
        dueFraction(x.value(2, 2, 0), x.value(2, 2, 1), 50, 1);
        x.heavy(0, 2);
        dueFraction(x.value(0, 1, 0), x.value(0, 1, 1), 182, 3);
        dueFraction(x.value(1, 0, 0), x.value(1, 1, 0), 81, 81);
        x.rule(2, 0);
        dueFraction(x.value(2, 2, 0), x.value(2, 2, 1), 35, 1);
        dueFraction(x.value(2, 0, 0), x.value(2, 0, 1), 101, 2);
        // By ABSOLUTE of several the least for each.
        LatticeGrader y = with(60, 20, 70, 30);
        y.rule(0, 1);
        y.rule(0, 3);
        y.rule(2, 3);
        due(y.value(1, 0, 0), 20);
        due(y.value(1, 1, 0), 20);
        due(y.value(1, 2, 0), 30);
        due(y.value(1, 3, 0), 30);
        dueFraction(y.value(0, 0, 0), y.value(0, 0, 1), 40, 1);
        dueFraction(y.value(0, 2, 0), y.value(0, 3, 0), 50, 50);
        LatticeGrader z = with(90, 10, 40);
        z.rule(0, 1);
        z.rule(1, 2);
        dueFraction(z.value(0, 2, 0), z.value(0, 2, 1), 140, 3);
        // All at 40 costs as much, but is more.
        due(z.value(1, 0, 0), 10);
        due(z.value(1, 2, 0), 40);
        due(z.value(2, 2, 0), 65);
        due(z.value(2, 0, 0), 50);
        begin(22);
        due(x.value(3, 9, 9), OTHER);
        due(x.value(-1, 0, 0), OTHER);
        due(x.value(0, 3, 9), NOBODY);
        due(x.value(2, -1, 0), NOBODY);
        due(x.value(0, 0, 2), OTHER);
        due(x.value(0, 0, -1), OTHER);
        refused(x, 2, 4, 0, 0, 0);
    }

    private static void grades() {
        begin(23);
        LatticeGrader x = with(81, 20);
        x.rule(0, 1);
        x.limit(20);
        x.limit(50);
        x.limit(51);
        due(x.grade(0, 0), 2);
        due(x.grade(1, 0), 1);
        due(x.grade(2, 1), 2);
        x.raw(0, 80);
        due(x.grade(0, 1), 2);
        x.raw(0, 79);
        due(x.grade(0, 1), 1);
        due(x.grade(3, 5), -2);
        due(x.grade(-1, 0), -2);
        due(x.grade(0, 2), -1);
        due(x.grade(0, -1), -1);
        refused(x, 2, 2, 0, 0, 0);
    }

    private static void changes() {
        begin(24);
        LatticeGrader x = with(81, 20);
        dueFraction(x.change(0, 0), x.change(0, 1), 0, 1);
        x.rule(0, 1);
        dueFraction(x.change(0, 0), x.change(0, 1), 3721, 2);
        dueFraction(x.change(1, 0), x.change(1, 1), 61, 1);
        dueFraction(x.change(2, 0), x.change(2, 1), 61, 2);
        x.heavy(0, 2);
        dueFraction(x.change(0, 0), x.change(0, 1), 7442, 3);
        dueFraction(x.change(1, 0), x.change(1, 1), 61, 1);
        dueFraction(x.change(2, 0), x.change(2, 1), 61, 2);
        due(x.change(3, 0), OTHER);
        due(x.change(-1, 0), OTHER);
        due(x.change(0, 2), OTHER);
        due(x.change(2, -1), OTHER);
        refused(x, 0, 4, 0, 0, 0);
    }

    private static void pools() {
        LatticeGrader x = with(80, 20, 50, 50);
        x.rule(0, 1);
        x.rule(0, 2);
        begin(25);
        // All are 50, but no RULE goes from 3.
        due(x.pool(0, 0), 7);
        due(x.pool(0, 1), 7);
        due(x.pool(0, 2), 7);
        due(x.pool(0, 3), 8);
        due(x.pool(1, 0), 3);
        due(x.pool(1, 2), 4);
        due(x.pool(2, 0), 3);
        begin(26);
        due(x.binds(0), 3);
        due(x.binds(1), 1);
        due(x.binds(2), 1);
        x.raw(2, 60);
        due(x.binds(0), 1);
        due(x.binds(2), 1);
        due(x.pool(0, 2), 4);
        // 25 by 2 is not 25.
        LatticeGrader half = with(20, 5, 25);
        half.rule(0, 1);
        half.rule(1, 2);
        due(half.value(0, 1, 0), 25);
        due(half.value(0, 2, 0), 25);
        due(half.binds(0), 1);
        due(half.pool(0, 1), 3);
        // From 0 by RULES told from the far end on, up and down.
        LatticeGrader far = with(50, 50, 50, 50);
        far.rule(3, 2);
        far.rule(1, 2);
        far.rule(1, 0);
        due(far.pool(0, 0), 15);
        // Like MARKS bind, too.
        LatticeGrader y = with(30, 30);
        y.rule(0, 1);
        due(y.binds(0), 1);
        due(y.pool(2, 1), 3);
        begin(25);
        due(x.pool(3, 9), -2);
        due(x.pool(0, 4), -1);
        due(x.pool(0, -1), -1);
        begin(26);
        due(x.binds(3), -2);
        due(x.binds(-1), -2);
        refused(x, 2, 3, 0, 0, 0);
    }

    private static void worths() {
        begin(27);
        LatticeGrader x = with(80, 20, 90, 10);
        x.rule(0, 1);
        x.rule(2, 3);
        dueFraction(x.worth(0, 0, 0), x.worth(0, 0, 1), 1800, 1);
        dueFraction(x.worth(0, 1, 0), x.worth(0, 1, 1), 3200, 1);
        dueFraction(x.worth(1, 0, 0), x.worth(1, 0, 1), 60, 1);
        dueFraction(x.worth(2, 0, 0), x.worth(2, 0, 1), 0, 1);
        dueFraction(x.worth(2, 1, 0), x.worth(2, 1, 1), 10, 1);
        due(x.worth(3, 9, 9), OTHER);
        due(x.worth(0, 2, 9), NOBODY);
        due(x.worth(0, -1, 0), NOBODY);
        due(x.worth(0, 0, 2), OTHER);
        refused(x, 2, 2, 0, 0, 0);
        // By a way round, a RULE has no WORTH.
        LatticeGrader y = with(81, 50, 20);
        y.rule(0, 1);
        y.rule(1, 2);
        y.rule(0, 2);
        due(y.worth(0, 2, 0), 0);
        due(y.worth(2, 0, 0), 0);
        y.free(2);
        // Without the first, 81 stays and 50, 20 are 35: 450; with it 151 by 3 each: 5583 by 3.
        dueFraction(y.worth(0, 0, 0), y.worth(0, 0, 1), 4232, 3);
        begin(28);
        // By WORST halves: 61 by 2, without the second 30.
        LatticeGrader halves = with(80, 20, 81, 20);
        halves.rule(0, 1);
        halves.rule(2, 3);
        due(halves.dearest(2), 1);
        dueFraction(halves.worth(2, 1, 0), halves.worth(2, 1, 1), 1, 2);
        due(x.dearest(0), 1);
        due(x.dearest(1), 1);
        due(x.dearest(2), 1);
        x.raw(2, 80);
        x.raw(3, 20);
        due(x.dearest(0), 0);
        due(x.dearest(1), 0);
        due(x.dearest(2), -9);
        x.raw(0, 0);
        due(x.dearest(0), 1);
        x.raw(2, 0);
        due(x.dearest(0), -9);
        due(x.dearest(3), -2);
        due(x.dearest(-1), -2);
        due(x.count(12), 4);
    }

    private static void needs() {
        begin(29);
        LatticeGrader x = with(80, 5);
        x.rule(0, 1);
        x.limit(50);
        x.limit(99);
        due(x.needs(0, 1, 0), 0);
        due(x.needs(0, 1, 1), 20);
        due(x.needs(1, 1, 1), 50);
        due(x.needs(2, 1, 1), 20);
        due(x.needs(0, 0, 1), 95);
        due(x.needs(0, 1, 2), 99);
        due(x.needs(0, 0, 2), -9);
        due(x.needs(0, 1, 3), -9);
        due(x.needs(0, 1, 5), -9);
        due(x.of(1, 0), 5);
        x.kind(1, 4, 9);
        // BONUS: with 70 more than 69 and 10.
        x.raw(0, 10);
        due(x.needs(0, 1, 1), 41);
        due(x.needs(0, 1, 2), 80);
        x.kind(1, 2, 3);
        due(x.needs(0, 1, 1), 59);
        due(x.needs(0, 1, 2), -9);
        due(x.needs(3, 9, 9), -2);
        due(x.needs(0, 2, -1), -1);
        due(x.needs(0, -1, 6), -1);
        due(x.needs(0, 0, -1), -4);
        due(x.needs(0, 0, 6), -6);
        refused(x, 2, 1, 0, 1, 1);
    }

    private static void likely() {
        begin(30);
        LatticeGrader x = with(80, 20, 30);
        dueFraction(x.likely(0, 0, 2, 0), x.likely(0, 0, 2, 1), 1, 1);
        x.rule(0, 1);
        dueFraction(x.likely(0, 0, 2, 0), x.likely(0, 0, 2, 1), 1, 2);
        dueFraction(x.likely(0, 0, 20, 0), x.likely(0, 0, 20, 1), 1, 20);
        dueFraction(x.likely(1, 1, 20, 0), x.likely(1, 1, 20, 1), 1, 1);
        x.rule(0, 2);
        dueFraction(x.likely(0, 0, 3, 0), x.likely(0, 0, 3, 1), 1, 9);
        dueFraction(x.likely(0, 1, 3, 0), x.likely(0, 1, 3, 1), 1, 3);
        dueFraction(x.likely(2, 2, 4, 0), x.likely(2, 2, 4, 1), 1, 4);
        // 20 and 80 are 50: 50 stays with and without the other RULE.
        x.raw(2, 50);
        dueFraction(x.likely(0, 2, 4, 0), x.likely(0, 2, 4, 1), 13, 16);
        // The sixth RULE always is there.
        LatticeGrader y = with(1, 2, 3, 4, 5, 90, 6);
        for (int l = 0; l < 5; l++) {
            y.rule(l, l + 1);
        }
        dueFraction(y.likely(0, 5, 5, 0), y.likely(0, 5, 5, 1), 1, 1);
        y.rule(5, 6);
        dueFraction(y.likely(0, 5, 5, 0), y.likely(0, 5, 5, 1), 0, 1);
        y.free(0);
        dueFraction(y.likely(0, 5, 5, 0), y.likely(0, 5, 5, 1), 1, 5);
        due(x.likely(3, 9, 1, 9), OTHER);
        due(x.likely(0, 3, 1, 9), NOBODY);
        due(x.likely(0, 0, 1, 9), BELOW);
        due(x.likely(0, 0, 21, 9), ROOM);
        due(x.likely(0, 0, 20, 2), OTHER);
        refused(x, 1, 2, 0, 1, 1);
    }

    private static void says() {
        begin(31);
        LatticeGrader x = with(80, 20, 50, 99);
        dueText(said(x, 0), "0:80= A");
        x.rule(0, 1);
        x.rule(0, 2);
        x.limit(40);
        x.limit(50);
        dueText(said(x, 0), "0:80-30 C with 1,2");
        dueText(said(x, 1), "1:20+30 C with 0,2");
        dueText(said(x, 2), "2:50= C with 0,1");
        dueText(said(x, 3), "3:99= C");
        x.kind(0, 4, 3);
        x.heavy(1, 2);
        dueText(said(x, 0), "0:93-146/3 B with 1");
        dueText(said(x, 1), "1:20+73/3 B with 0");
        LatticeGrader near = with(21, 20);
        near.rule(0, 1);
        dueText(said(near, 0), "0:21-1/2 A with 1");
        dueText(said(near, 1), "1:20+1/2 A with 0");
        x.limit(60);
        x.limit(70);
        x.limit(80);
        dueText(said(x, 3), "3:99= F");
        due(x.says(3, -1), 7);
        due(x.says(3, 0), '3');
        due(x.says(3, 6), 'F');
        due(x.says(3, 7), -1);
        due(x.says(3, -2), -1);
        due(x.says(4, 0), -1);
        due(x.says(-1, -1), -1);
        due(x.says(0, MAX), -1);
        due(x.says(0, MIN), -1);
        due(x.count(11), 6);
    }

    private static void whatKind() {
        begin(32);
        LatticeGrader x = with(5);
        due(x.whatIs(0, 0), 63);
        due(x.whatIs(0, 1), 1023);
        x.kind(0, 1, 3);
        x.row(3);
        due(x.whatIs(0, 0), 18);
        due(x.whatIs(0, 1), 8);
        for (int i = 1; i < 7; i++) {
            x.row(10 * i + 3);
        }
        due(x.whatIs(0, 0), 18);
        x.row(83);
        due(x.whatIs(0, 0), 16);
        due(x.whatIs(0, 1), 0);
        x.kind(0, 4, 9);
        due(x.whatIs(0, 1), 8);
        due(x.clear(), 8);
        x.row(0);
        due(x.whatIs(0, 0), 45);
        x.kind(0, 2, 9);
        due(x.whatIs(0, 1), 1023);
        x.row(0);
        due(x.whatIs(0, 1), 1008);
        due(x.whatIs(0, 0), 12);
        x.row(0);
        due(x.whatIs(0, 1), 896);
        x.clear();
        x.kind(0, 3, 0);
        for (int i = 0; i <= 6; i++) {
            x.row(Math.min(50, 10 * i));
        }
        due(x.whatIs(0, 0), 8);
        due(x.whatIs(0, 1), 1);
        due(x.count(5), 7);
        due(x.of(0, 0), 5);
        due(x.whatIs(1, 5), -1);
        due(x.whatIs(-1, 0), -1);
        due(x.whatIs(0, 2), -2);
        due(x.whatIs(0, -1), -2);
        refused(x, 2, 2, 0, 0, 0);
    }

    private static void rows() {
        begin(33);
        LatticeGrader x = new LatticeGrader();
        due(x.row(-1), -4);
        due(x.row(1000), -6);
        for (int i = 1; i <= 10; i++) {
            due(x.row(i == 1 ? 0 : 999), i);
        }
        due(x.row(5), -6);
        due(x.row(-5), -4);
        due(x.count(5), 10);
        refused(x, 0, 0, 0, 2, 2);
        begin(34);
        due(x.clear(), 10);
        due(x.clear(), 0);
        due(x.row(7), 1);
        due(x.count(5), 1);
    }

    private static int next(int z) {
        return z * 1664525 + 1013904223;
    }

    private static int draw(int z) {
        return (z & MAX) / 256 % 100;
    }

    private static void lots() {
        begin(35);
        LatticeGrader x = with(1, 99);
        x.rule(0, 1);
        x.limit(50);
        int z = -12345;
        int all = 0;
        for (int n = 1; n <= 20; n++) {
            int first = next(z);
            z = next(first);
            all += draw(first) > draw(z) ? 1 : 0;
            due(x.lots(n, -12345, 0), all);
        }
        // With one RULE, both are in one POOL if they are drawn so, or alike.
        int like = 0;
        int seed = 7;
        for (int n = 0; n < 20; n++) {
            int first = next(seed);
            seed = next(first);
            like += draw(first) >= draw(seed) ? 2 : 0;
        }
        due(x.lots(20, 7, 1), like);
        due(x.of(0, 0), 1);
        due(x.of(1, 0), 99);
        // A RULE from the last to the first.
        LatticeGrader three = with(0, 0, 0);
        three.rule(2, 0);
        int drawn = 0;
        seed = 99;
        for (int n = 0; n < 20; n++) {
            int first = next(seed);
            seed = next(next(first));
            drawn += draw(seed) >= draw(first) ? 2 : 0;
        }
        due(three.lots(20, 99, 1), drawn);
        x.free(0);
        due(x.lots(20, 7, 0), 0);
        due(x.lots(20, 7, 1), 0);
        due(x.lots(0, 1, 9), -4);
        due(x.lots(21, 1, 9), -6);
        due(x.lots(20, 1, 2), -2);
        due(x.lots(20, 1, -1), -2);
        refused(x, 0, 2, 0, 1, 1);
        // KIND and FIGURE stay: LATE by 27 nearly always is below CURVED by 9.
        LatticeGrader y = with(1, 1);
        y.rule(0, 1);
        y.kind(0, 1, 9);
        y.kind(1, 2, 9);
        int above = 0;
        seed = 3;
        for (int n = 0; n < 20; n++) {
            int first = next(seed);
            seed = next(first);
            above += draw(first) + 9 > Math.max(0, draw(seed) - 27) ? 1 : 0;
        }
        due(y.lots(20, 3, 0), above);
    }

    private static void shelves() {
        begin(36);
        LatticeGrader x = new LatticeGrader();
        due(x.shelf(4, 99), -1);
        due(x.shelf(-1, 1), -1);
        due(x.shelf(0, 21), -6);
        due(x.shelf(0, -1), -14);
        due(x.shelf(0, MIN), -14);
        due(x.look(0, 0), 4000000000000000011L);
        due(x.shelf(0, 20), 1);
        due(x.shelf(3, 0), 1);
        due(x.look(0, 19), 0);
        due(x.look(3, 0), 4000000000000000013L);
        refused(x, 2, 0, 0, 0, 1);
        begin(37);
        due(x.put(0, 19, Long.MIN_VALUE), 1);
        due(x.put(0, 0, Long.MAX_VALUE), 1);
        due(x.put(0, 20, 1), -13);
        due(x.put(0, -1, 1), -13);
        due(x.put(3, 0, 1), -13);
        due(x.put(1, 99, 1), -11);
        due(x.put(4, 99, 1), -1);
        due(x.put(-1, 0, 1), -1);
        refused(x, 4, 0, 0, 0, 1);
        begin(38);
        due(x.look(0, 19), Long.MIN_VALUE);
        due(x.look(0, 0), Long.MAX_VALUE);
        due(x.look(0, 1), 0);
        due(x.look(0, 20), 4000000000000000013L);
        due(x.look(0, -1), 4000000000000000013L);
        due(x.look(0, MAX), 4000000000000000013L);
        due(x.look(1, 0), 4000000000000000011L);
        due(x.look(4, 0), NOBODY);
        due(x.look(-1, 0), NOBODY);
        refused(x, 6, 0, 0, 0, 1);
        // A row made anew is all 0, however long the one before was.
        due(x.shelf(0, 2), 1);
        due(x.look(0, 0), 0);
        due(x.look(0, 2), 4000000000000000013L);
        due(x.shelf(0, 20), 1);
        due(x.look(0, 19), 0);
    }

    private static void laid() {
        begin(39);
        LatticeGrader x = with(81, 20, 7);
        x.rule(0, 1);
        due(x.lays(3, 9, 0), -2);
        due(x.lays(0, 4, 0), -1);
        due(x.lays(0, -1, 0), -1);
        due(x.lays(0, 2, -1), -11);
        x.shelf(2, 8);
        due(x.lays(0, 2, 2), 3);
        long[] want = {0, 0, 101, 2, 101, 2, 7, 1};
        for (int i = 0; i < 8; i++) {
            due(x.look(2, i), want[i]);
        }
        due(x.lays(1, 2, 3), -13);
        long[] later = {0, 0, 101, 20, 1, 20, 1, 7};
        for (int i = 0; i < 8; i++) {
            due(x.look(2, i), later[i]);
        }
        due(x.lays(0, 2, -1), -13);
        due(x.lays(0, 2, 8), -13);
        due(x.lays(0, 2, MAX), -13);
        due(x.lays(0, 2, MIN), -13);
        for (int i = 0; i < 8; i++) {
            due(x.look(2, i), later[i]);
        }
        due(x.lays(2, 2, 0), 3);
        due(x.look(2, 1), 2);
        refused(x, 2, 1, 0, 0, 0);
        // Of no PAPERS all has a place.
        LatticeGrader y = new LatticeGrader();
        y.shelf(0, 0);
        due(y.lays(0, 0, 0), 0);
    }

    private static void judged() {
        begin(40);
        LatticeGrader x = with(81, 20, 7);
        x.rule(0, 1);
        due(x.judge(3, 9), -2);
        due(x.judge(0, 4), -1);
        due(x.judge(0, -1), -1);
        due(x.judge(0, 1), -11);
        x.shelf(1, 6);
        due(x.judge(0, 1), 0);
        x.lays(0, 1, 0);
        due(x.judge(0, 1), -9);
        due(x.judge(2, 1), -9);
        due(x.judge(1, 1), 0);
        x.put(1, 5, 2);
        due(x.judge(0, 1), 2);
        x.put(1, 3, 1);
        due(x.judge(0, 1), 1);
        x.put(1, 0, 100);
        due(x.judge(0, 1), 0);
        int[] ended = {100, 100, 101, 101, 102, 102, -9, -9};
        for (int size = 0; size < 8; size++) {
            x.shelf(1, size);
            x.lays(0, 1, 0);
            due(x.judge(0, 1), ended[size]);
        }
        // The row ends behind a first number that is otherwise.
        x.shelf(1, 3);
        x.lays(0, 1, 0);
        x.put(1, 2, 5);
        due(x.judge(0, 1), 1);
        x.shelf(1, 20);
        x.lays(0, 1, 0);
        x.put(1, 6, 5);
        due(x.judge(0, 1), -9);
        refused(x, 2, 1, 0, 0, 0);
        LatticeGrader y = new LatticeGrader();
        y.shelf(0, 0);
        due(y.judge(0, 0), -9);
    }

    private static void images() {
        LatticeGrader x = with(81, 20);
        begin(42);
        due(x.on(), -3);
        due(x.count(13), 1);
        begin(41);
        x.rule(0, 1);
        x.limit(30);
        x.ties(2);
        x.kind(0, 3, 4);
        x.heavy(1, 7);
        x.place(1, 9);
        due(x.image(), 2);
        begin(42);
        x.paper(50);
        x.free(0);
        x.rule(1, 0);
        x.limits();
        x.limit(5);
        x.limit(6);
        x.ties(1);
        x.kind(0, 5, 1);
        x.raw(0, 3);
        x.heavy(1, 2);
        x.place(1, 3);
        x.letter(112);
        x.row(4);
        x.shelf(0, 3);
        x.put(0, 1, 9);
        due(x.on(), 2);
        int[] first = {81, 3, 4, 1, 0, 50, 2, 1};
        int[] second = {20, 0, 0, 7, 9, 20, 7, 0};
        for (int what = 0; what < 8; what++) {
            due(x.of(0, what), first[what]);
            due(x.of(1, what), second[what]);
        }
        due(x.count(0), 2);
        due(x.count(1), 1);
        due(x.ruleOf(0, 0), 0);
        due(x.count(2), 1);
        due(x.count(3), 2);
        // Letters, ROW, SHELVES and REFUSALS are as they were.
        due(x.count(4), 1);
        due(x.count(5), 1);
        due(x.look(0, 1), 9);
        due(x.count(13), 1);
        // The image stays, and is not changed with what goes on.
        x.raw(0, 1);
        due(x.on(), 2);
        due(x.of(0, 0), 81);
        x.raw(0, 2);
        due(x.image(), 2);
        x.raw(0, 3);
        due(x.on(), 2);
        due(x.of(0, 0), 2);
        // A PAPER that comes where another one was is PLAIN as any new one.
        x.paper(9);
        x.kind(2, 4, 8);
        x.heavy(2, 8);
        x.place(2, 8);
        due(x.on(), 2);
        due(x.paper(10), 2);
        int[] anew = {10, 0, 0, 1, 2, 10, 1, 0};
        for (int what = 0; what < 8; what++) {
            due(x.of(2, what), anew[what]);
        }
    }

    private static void counts() {
        begin(43);
        LatticeGrader x = with(60, 50, 40);
        x.rule(0, 1);
        x.rule(2, 1);
        x.rule(0, 2);
        x.limit(9);
        x.ties(1);
        x.letter(65);
        x.row(3);
        x.row(3);
        int[] want = {3, 3, 1, 1, 1, 2, 5};
        for (int what = 0; what < 7; what++) {
            due(x.count(what), want[what]);
        }
        x.kind(1, 1, 9);
        due(x.count(6), 5);
        x.kind(0, 2, 1);
        due(x.count(6), 4);
        int[] others = {-1, 7, 8, 9, 10, 17, 18, MIN, MAX};
        for (int what : others) {
            due(x.count(what), -9);
        }
        x.of(9, 0);
        x.of(0, 9);
        x.on();
        x.raw(0, -1);
        x.raw(0, 100);
        x.value(0, 9, 0);
        x.likely(0, 0, 1, 0);
        x.look(9, 0);
        refused(x, 3, 1, 1, 2, 1);
    }
}
