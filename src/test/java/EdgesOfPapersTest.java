/** The document's edges, sentence by sentence: letters and STATEMENTS, PAPERS, RULES, LIMITS, TIES, UNDER, PAIRS. */
public final class EdgesOfPapersTest {
    private static final String[] STATEMENTS = {
        "paper 42;", "kind 0 3 9;", "heavy 1 9;", "place 0 9;", "rule 0 1;", "free 0;", "limit 99;", "ties 2;"
    };

    public static void main(String[] args) {
        callsOfAnObject();
        newObjects();
        letters();
        statementsComplete();
        statementsLacking();
        lettersThatDoNotFit();
        numbersOfStatements();
        manyStatements();
        faultsOfBothKinds();
        refusedStatements();
        refusedStatementsOfRules();
        faultsLeaveAll();
        papers();
        kindsAndFigures();
        marks();
        weights();
        numbersOfPapers();
        rules();
        rulesTakenAway();
        under();
        rulesAndUnder();
        pairs();
        leave();
        limits();
        grades();
        ties();
        Edges.end();
    }

    private static void callsOfAnObject() {
        Edges.sentence("An object is used for at most 512 calls after it has been made");
        LatticeGrader x = Edges.with(81, 20);
        x.rule(0, 1);
        x.limit(50);
        for (int call = 5; call <= 510; call++) {
            Edges.due(x.likely(call % 3, call % 2, 1, 0), Edges.BELOW);
        }
        Edges.due("call 511", x.count(14), 506);
        Edges.due("call 512", x.value(0, 0, 0), 101);
        LatticeGrader y = new LatticeGrader();
        for (int round = 0; round < 4; round++) {
            for (int many = 1; many <= 120; many++) {
                Edges.due(y.letter('t'), many);
            }
            Edges.due(y.tells(), -1001);
        }
        for (int call = 485; call <= 511; call++) {
            Edges.due(y.letter('t'), call - 484);
        }
        Edges.due("call 512", y.paper(99), 0);
    }

    private static void newObjects() {
        Edges.sentence("A new object: No PAPERS");
        LatticeGrader x = new LatticeGrader();
        for (int what = 0; what <= 6; what++) {
            Edges.due(x.count(what), 0);
        }
        for (int what = 11; what <= 16; what++) {
            Edges.due(x.count(what), 0);
        }
        Edges.due(x.of(0, 0), -1);
        // One object's PAPERS are not another one's.
        LatticeGrader y = new LatticeGrader();
        x.paper(5);
        Edges.due(y.count(0), 0);
        Edges.due(y.paper(6), 0);
        Edges.due(x.of(0, 0), 5);
    }

    private static void letters() {
        Edges.sentence("A letter (0 .. 255) comes: how many there are");
        LatticeGrader x = new LatticeGrader();
        Edges.due(x.letter(0), 1);
        Edges.due(x.letter(255), 2);
        Edges.due(x.letter(1), 3);
        Edges.due(x.letter(254), 4);
        Edges.due(x.count(4), 4);
        Edges.sentence("Told in letters (120 at most); -6 (255; 120, too)");
        for (int many = 5; many <= 119; many++) {
            Edges.due(x.letter(many), many);
        }
        Edges.due(x.letter(255), 120);
        Edges.due(x.letter(255), -6);
        Edges.due(x.letter(0), -6);
        Edges.due(x.letter(-1), -4);
        Edges.due(x.count(4), 120);
        Edges.sentence("The letters become STATEMENTS, and are no more (with a FAULT neither)");
        Edges.due(x.tells(), -1000);
        Edges.due(x.count(4), 0);
        Edges.due(x.tells(), -1000);
        Edges.due(x.letter('p'), 1);
        Edges.due(x.count(4), 1);
        Edges.due(x.tells(), -1001);
        Edges.due(Edges.tells(x, "paper 9;"), 1);
        Edges.due(x.count(4), 0);
        Edges.due(x.tells(), -1000);
        Edges.due(x.count(0), 1);
        Edges.due(Edges.tells(x, "paper 9;heavy 0 0;"), -2008);
        Edges.due(x.count(4), 0);
        Edges.due(x.letter('p'), 1);
        Edges.sentence("letters longer ago are not part of those that come");
        LatticeGrader y = new LatticeGrader();
        Edges.letters(y, "paper 77;paper 88;");
        Edges.due(y.tells(), 2);
        Edges.due(Edges.tells(y, "paper 1"), -1007);
        Edges.due(y.count(0), 2);
    }

    /** Two PAPERS, one RULE. */
    private static LatticeGrader ready() {
        LatticeGrader x = Edges.with(10, 20);
        x.rule(1, 0);
        return x;
    }

    private static void statementsComplete() {
        Edges.sentence("a word, then its numbers (one or two digits), a blank ahead of each");
        LatticeGrader x = ready();
        Edges.due(Edges.tells(x, "paper 42;"), 1);
        Edges.due(x.of(2, 0), 42);
        Edges.due(Edges.tells(x, "kind 0 3 9;"), 1);
        Edges.due(x.of(0, 1), 3);
        Edges.due(x.of(0, 2), 9);
        Edges.due(Edges.tells(x, "heavy 1 8;"), 1);
        Edges.due(x.of(1, 3), 8);
        Edges.due(x.of(0, 3), 1);
        Edges.due(Edges.tells(x, "place 0 9;"), 1);
        Edges.due(x.of(0, 4), 9);
        Edges.due(Edges.tells(x, "rule 1 2;"), 1);
        Edges.due(x.ruleOf(1, 0), 1);
        Edges.due(x.ruleOf(1, 1), 2);
        Edges.sentence("free RULE (taken away)");
        Edges.due(Edges.tells(x, "free 0;"), 1);
        Edges.due(x.count(1), 1);
        Edges.due(x.ruleOf(0, 1), 2);
        Edges.sentence("limit LIMIT (one more)");
        Edges.due(Edges.tells(x, "limit 41;"), 1);
        Edges.due(Edges.tells(x, "limit 42;"), 1);
        Edges.due(x.count(2), 2);
        Edges.due(x.of(2, 7), 2);
        Edges.sentence("ties TIES");
        Edges.due(Edges.tells(x, "ties 2;"), 1);
        Edges.due(x.count(3), 2);
    }

    private static void statementsLacking() {
        Edges.sentence("the place of the first letter with which no STATEMENTS can go on (the end, if something lacks)");
        for (String statement : STATEMENTS) {
            for (int end = 0; end < statement.length(); end++) {
                Edges.due(statement + end, Edges.tells(ready(), statement.substring(0, end)), -1000 - end);
                Edges.due(statement + end, Edges.tells(ready(), "ties 1;" + statement.substring(0, end)),
                    end == 0 ? 1 : -1007 - end);
            }
            // The RULE is there turned.
            Edges.due(statement, Edges.tells(ready(), statement), statement.startsWith("rule") ? -2000 : 1);
        }
        Edges.sentence("At least one");
        Edges.due(ready().tells(), -1000);
        Edges.due(Edges.tells(ready(), ";"), -1000);
        Edges.due(Edges.tells(ready(), " "), -1000);
        Edges.sentence("STATEMENTS, each with \";\" behind");
        Edges.due(Edges.tells(ready(), "ties 1;;"), -1007);
        Edges.due(Edges.tells(ready(), "ties 1; "), -1007);
        Edges.due(Edges.tells(ready(), ";ties 1;"), -1000);
        Edges.due(Edges.tells(ready(), "ties 1ties 1;"), -1006);
        Edges.due(Edges.tells(ready(), "ties 1,ties 1;"), -1006);
        Edges.due(Edges.tells(ready(), "ties 1;ties 1"), -1013);
    }

    private static void lettersThatDoNotFit() {
        Edges.sentence("kind 1 the place of the first letter with which no STATEMENTS can go on");
        // None of these is in any STATEMENT.
        int[] strange = {0, 1, 9, 10, 13, 31, 33, '-', '.', '/', ':', '<', 'A', 'P', 'Z', '_', 'b', 'z', 127, 160, 233, 255};
        for (String statement : STATEMENTS) {
            for (int at = 0; at < statement.length(); at++) {
                for (int c : strange) {
                    String text = statement.substring(0, at) + (char) c + statement.substring(at + 1);
                    Edges.due(statement + at + " " + c, Edges.tells(ready(), text), -1000 - at);
                    Edges.due(statement + at + " " + c, Edges.tells(ready(), "free 0;" + text), -1007 - at);
                }
            }
        }
        Edges.sentence("words that begin alike");
        String[] texts = {"pp", "pb", "papr", "paped", "papers", "plaper", "pla e", "placed", "k", "ki d", "kinds", "hp",
            "heavs", "heavy;", "rile", "rulf", "rule;", "fr", "frea", "fred", "free;", "l", "lanit", "limif", "limits",
            "tie", "tied", "tiess", "raw 0 1;", "on;", "a"};
        int[] places = {1, 1, 3, 4, 5, 3, 3, 5, 1, 2, 4, 1, 4, 5, 1, 3, 4, 2, 3, 3, 4, 1, 1, 4, 5, 3, 3, 4, 1, 0, 0};
        for (int i = 0; i < texts.length; i++) {
            Edges.due(texts[i], Edges.tells(ready(), texts[i]), -1000 - places[i]);
        }
    }

    private static void numbersOfStatements() {
        Edges.sentence("its numbers (one or two digits), a blank ahead of each");
        String[] texts = {"paper 0;", "paper 00;", "paper 09;", "paper 99;", "heavy 00 01;", "kind 01 05 09;",
            "kind 1 5 9;", "place 01 0;", "rule 00 01;", "free 00;", "limit 01;", "ties 00;"};
        for (String text : texts) {
            LatticeGrader x = Edges.with(10, 20);
            x.rule(0, 1);
            Edges.due(text, Edges.tells(x, text), text.startsWith("rule") ? -2000 : 1);
        }
        String[] faults = {"paper ;", "paper  1;", "paper 1 ;", "paper 100;", "paper 000;", "paper 1 2;", "paper1;",
            "kind 0;", "kind 0 0;", "kind 0 0 ;", "kind 0 0 000;", "kind 000 0 0;", "kind 0 000 0;", "kind 0 0 0 0;",
            "kind 00 00 00 ", "heavy 1;", "heavy 0 1 1;", "place 0;", "place 0 0 0;", "rule 0;", "rule 0 1 0;", "rule 1;",
            "free;", "free 0 0;", "free 000;", "limit 5 6;", "limit 100;", "ties 0 0;", "ties 001;", "ties +1;",
            "ties -1;", "paper 1.0;"};
        int[] places = {6, 6, 7, 8, 8, 7, 5, 6, 8, 9, 11, 7, 9, 10, 13, 7, 9, 7, 9, 6, 8, 6, 4, 6, 7, 7, 8, 6, 7, 5, 5, 7};
        for (int i = 0; i < faults.length; i++) {
            Edges.due(faults[i], Edges.tells(ready(), faults[i]), -1000 - places[i]);
        }
        Edges.sentence("two digits are one number");
        LatticeGrader x = new LatticeGrader();
        Edges.due(Edges.tells(x, "paper 10;paper 01;paper 98;limit 90;limit 99;"), 5);
        Edges.due(x.of(0, 0), 10);
        Edges.due(x.of(1, 0), 1);
        Edges.due(x.of(2, 0), 98);
        Edges.due(x.of(2, 7), 1);
        x.raw(2, 99);
        Edges.due(x.of(2, 7), 2);
    }

    private static void manyStatements() {
        Edges.sentence("how many");
        LatticeGrader x = new LatticeGrader();
        // 17 of seven letters are 119, and the last of them holds.
        Edges.due(Edges.tells(x, "ties 1;".repeat(16) + "ties 2;"), 17);
        Edges.due(x.count(3), 2);
        Edges.due(Edges.tells(x, "ties 1;".repeat(16) + "ties 00;"), 17);
        Edges.due(x.count(3), 0);
        // The 121st letter has no room, and the text ends ahead of it.
        Edges.due(Edges.tells(x, "ties 1;".repeat(16) + "paper 11;"), -1120);
        Edges.due(x.count(16), 1);
        Edges.due(x.count(3), 0);
        Edges.due(x.count(0), 0);
        Edges.sentence("PAPERS, RULES and LIMITS of a text are numbered as those of calls");
        LatticeGrader y = Edges.with(10);
        y.limit(5);
        Edges.due(Edges.tells(y, "paper 90;rule 1 0;limit 6;paper 30;kind 2 1 4;rule 0 2;"), 6);
        Edges.due(y.count(0), 3);
        Edges.due(y.of(1, 4), 1);
        Edges.due(y.of(2, 4), 2);
        Edges.due(y.of(2, 5), 34);
        Edges.due(y.ruleOf(0, 0), 1);
        Edges.due(y.ruleOf(1, 1), 2);
        Edges.due(y.count(2), 2);
        Edges.due(y.paper(1), 3);
        Edges.due(y.rule(2, 3), 2);
    }

    private static void faultsOfBothKinds() {
        Edges.sentence("FAULT: kind 1 ..; else kind 2");
        String[] texts = {"ties 3;x", "ties 3;ties 1", "ties 3;", "ties 3;ties 4;", "ties 1;ties 3;ties 4;",
            "free 0;free 0;ties", "free 9;paper 5;;", "ties 3;ties 300;", "ties 1;ties 2;ties 3;"};
        int[] due = {-1007, -1013, -2000, -2000, -2007, -1018, -1015, -1014, -2014};
        for (int i = 0; i < texts.length; i++) {
            Edges.due(texts[i], Edges.tells(ready(), texts[i]), due[i]);
        }
    }

    private static void faulted(String text, int place) {
        LatticeGrader x = ready();
        Edges.due(text, Edges.tells(x, text), -2000 - place);
        Edges.due(text, x.count(0) + 10 * x.count(1) + 100 * x.count(2) + 1000 * x.count(3), 12);
    }

    private static void refusedStatements() {
        Edges.sentence("kind 2 the place of the first letter of the first STATEMENT that .. is not as it must be");
        faulted("paper 5;kind 3 0 0;", 8);
        faulted("kind 0 6 0;", 0);
        faulted("kind 0 99 0;", 0);
        faulted("kind 0 0 10;", 0);
        faulted("kind 2 0 0;", 0);
        faulted("heavy 2 1;", 0);
        faulted("heavy 0 0;", 0);
        faulted("heavy 0 10;", 0);
        faulted("place 2 1;", 0);
        faulted("place 0 10;", 0);
        faulted("rule 0 2;", 0);
        faulted("rule 2 0;", 0);
        faulted("rule 1 1;", 0);
        faulted("free 1;", 0);
        faulted("limit 0;", 0);
        faulted("limit 00;", 0);
        faulted("limit 5;limit 5;", 8);
        faulted("limit 5;limit 4;", 8);
        faulted("ties 3;", 0);
        faulted("ties 99;", 0);
        faulted("paper 1;paper 2;paper 3;paper 4;paper 5;paper 6;", 40);
        faulted("limit 1;limit 2;limit 3;limit 4;limit 5;limit 6;", 40);
        Edges.sentence("that, behind all ahead of it in the text");
        faulted("heavy 2 5;paper 5;", 0);
        faulted("paper 5;heavy 2 5;heavy 3 5;", 18);
        faulted("free 0;free 0;", 7);
        faulted("rule 1 0;", 0);
        faulted("rule 0 1;", 0);
        LatticeGrader x = ready();
        Edges.due(Edges.tells(x, "free 0;rule 0 1;paper 5;rule 1 2;heavy 2 5;limit 5;limit 6;"), 7);
        Edges.due(x.ruleOf(0, 1), 1);
        Edges.due(x.of(2, 3), 5);
        Edges.due(Edges.tells(x, "rule 2 0;"), -2000);
        Edges.due(Edges.tells(x, "free 0;rule 2 0;"), 2);
        Edges.due(Edges.tells(x, "free 0;rule 0 1;"), 2);
        // In these two texts the words are no calls: raw, limits are not told.
        Edges.due(Edges.tells(x, "raw 0 1;"), -1001);
        Edges.due(Edges.tells(x, "limits;"), -1005);
    }

    private static void refusedStatementsOfRules() {
        Edges.sentence("as paper(), kind() .. would refuse it: 12 RULES, 7 PAPERS, 5 LIMITS");
        LatticeGrader x = Edges.made(Edges::full);
        x.tells();
        Edges.due(Edges.tells(x, "rule 2 4;"), -2000);
        Edges.due(Edges.tells(x, "paper 0;"), -2000);
        Edges.due(Edges.tells(x, "limit 99;"), -2000);
        Edges.due(Edges.tells(x, "free 11;rule 2 4;rule 2 3;"), -2017);
        Edges.due(x.count(1), 12);
        Edges.due(x.ruleOf(11, 1), 3);
        Edges.due(Edges.tells(x, "free 12;"), -2000);
        Edges.due(Edges.tells(x, "free 11;rule 2 4;"), 2);
        Edges.due(x.count(1), 12);
        Edges.due(x.ruleOf(11, 1), 4);
        Edges.due(Edges.tells(x, "rule 4 2;"), -2000);
        Edges.due(Edges.tells(x, "rule 5 6;ties 1;"), -2000);
        Edges.due(x.count(3), 0);
    }

    private static void faultsLeaveAll() {
        Edges.sentence("Without FAULT all of it comes, with one nothing");
        String[] texts = {"", "paper 5", "paper 5;x", "paper 5;ties 3;", "limit 96;free 0;kind 0 0 0;heavy 0 9;place 0 9;free 9;",
            "kind 1 1 1;raw 0 1;", "free 0;rule 1 2;rule 2 1;", "ties 0;limit 99;limit 99;", "heavy 0 9;heavy 0 0;"};
        for (String text : texts) {
            Edges.Call told = x -> Edges.tells(x, text);
            Edges.onlyAsks(Edges::someWithoutLetters, told, told.on(Edges.made(Edges::someWithoutLetters)));
            Edges.due(text, told.on(Edges.made(Edges::someWithoutLetters)) < 0 ? 1 : 0, 1);
        }
    }

    private static void papers() {
        Edges.sentence("PAPERS 0 .. as they come (7 at most): RAW (0 .. 99)");
        LatticeGrader x = new LatticeGrader();
        int[] raws = {0, 99, 1, 98, 50, 0, 99};
        for (int p = 0; p < 7; p++) {
            Edges.due(x.count(0), p);
            Edges.due(x.paper(-1), -4);
            Edges.due(x.paper(100), -6);
            Edges.due(x.paper(raws[p]), p);
        }
        Edges.due(x.paper(0), -6);
        Edges.due(x.count(0), 7);
        Edges.sentence("of a KIND with a FIGURE (0 .. 9; PLAIN and 0 at first), HEAVY (.. 1 at first), PLACE (.. its number at first)");
        for (int p = 0; p < 7; p++) {
            int[] atFirst = {raws[p], 0, 0, 1, p, raws[p], 1, 0};
            for (int what = 0; what <= 7; what++) {
                Edges.due(x.of(p, what), atFirst[what]);
            }
        }
    }

    private static void kindsAndFigures() {
        Edges.sentence("KIND, FIGURE become others: 10 times the KIND and the FIGURE it had");
        LatticeGrader x = Edges.with(50, 50);
        int had = 0;
        for (int kind = 0; kind <= 5; kind++) {
            for (int figure : new int[] {0, 9, 5}) {
                Edges.due(x.kind(1, kind, figure), had);
                Edges.due(x.of(1, 1), kind);
                Edges.due(x.of(1, 2), figure);
                had = 10 * kind + figure;
            }
        }
        Edges.due(x.kind(1, 0, 0), 55);
        Edges.due(x.of(0, 1), 0);
        Edges.due(x.of(0, 2), 0);
        Edges.due(x.of(1, 0), 50);
    }

    private static void marks() {
        Edges.sentence("MARK: RAW; of CURVED ones FIGURE more");
        mark(0, 0, 0, 0);
        mark(0, 99, 9, 99);
        mark(0, 50, 9, 50);
        mark(1, 0, 0, 0);
        mark(1, 0, 9, 9);
        mark(1, 99, 0, 99);
        mark(1, 99, 9, 108);
        mark(1, 70, 0, 70);
        Edges.sentence("of LATE ones 3 times FIGURE less (0 at least)");
        mark(2, 0, 0, 0);
        mark(2, 99, 0, 99);
        mark(2, 0, 9, 0);
        mark(2, 26, 9, 0);
        mark(2, 27, 9, 0);
        mark(2, 28, 9, 1);
        mark(2, 3, 1, 0);
        mark(2, 2, 1, 0);
        mark(2, 4, 1, 1);
        mark(2, 99, 9, 72);
        Edges.sentence("of RESITS as of LATE ones, 50 at most");
        mark(3, 0, 0, 0);
        mark(3, 49, 0, 49);
        mark(3, 50, 0, 50);
        mark(3, 51, 0, 50);
        mark(3, 99, 0, 50);
        mark(3, 76, 9, 49);
        mark(3, 77, 9, 50);
        mark(3, 78, 9, 50);
        mark(3, 99, 9, 50);
        mark(3, 26, 9, 0);
        mark(3, 28, 9, 1);
        Edges.sentence("of BONUS ones as of CURVED ones, 10 more if RAW is 70 or more");
        mark(4, 0, 0, 0);
        mark(4, 69, 0, 69);
        mark(4, 70, 0, 80);
        mark(4, 71, 0, 81);
        mark(4, 69, 9, 78);
        mark(4, 61, 9, 70);
        mark(4, 70, 9, 89);
        mark(4, 99, 9, 118);
        Edges.sentence("of DOUBLE ones RAW");
        mark(5, 0, 9, 0);
        mark(5, 99, 9, 99);
        mark(5, 70, 1, 70);
    }

    private static void mark(int kind, int raw, int figure, int due) {
        LatticeGrader x = Edges.with(raw);
        x.kind(0, kind, figure);
        Edges.due("kind " + kind + " raw " + raw + " figure " + figure, x.of(0, 5), due);
        // The line and the RULES go by it, too.
        Edges.due(x.line(0, 0, 0), due);
        Edges.due(x.value(2, 0, 0), due);
        Edges.due(x.of(0, 0), raw);
    }

    private static void weights() {
        Edges.sentence("WEIGHT: HEAVY; of LATE ones half of it, rounded up; of RESITS 1 more than that; of DOUBLE ones twice HEAVY");
        int[] halves = {1, 1, 2, 2, 3, 3, 4, 4, 5};
        LatticeGrader x = Edges.with(50);
        for (int heavy = 1; heavy <= 9; heavy++) {
            x.heavy(0, heavy);
            int half = halves[heavy - 1];
            int[] due = {heavy, heavy, half, half + 1, heavy, 2 * heavy};
            for (int kind = 0; kind <= 5; kind++) {
                x.kind(0, kind, 9);
                Edges.due(x.of(0, 6), due[kind]);
                Edges.due(x.of(0, 3), heavy);
            }
        }
    }

    private static void numbersOfPapers() {
        LatticeGrader x = Edges.with(30, 40);
        Edges.sentence("RAW becomes v: what it was (0 .. 99)");
        Edges.due(x.raw(0, 0), 30);
        Edges.due(x.raw(0, 99), 0);
        Edges.due(x.raw(0, 99), 99);
        Edges.due(x.raw(0, 1), 99);
        Edges.due(x.of(0, 0), 1);
        Edges.due(x.of(1, 0), 40);
        Edges.sentence("HEAVY becomes v: what it was (1 .. 9)");
        Edges.due(x.heavy(0, 9), 1);
        Edges.due(x.heavy(0, 1), 9);
        Edges.due(x.heavy(0, 2), 1);
        Edges.due(x.of(0, 3), 2);
        Edges.due(x.of(1, 3), 1);
        Edges.sentence("PLACE becomes v: what it was (0 .. 9)");
        Edges.due(x.place(0, 9), 0);
        Edges.due(x.place(0, 0), 9);
        Edges.due(x.place(0, 1), 0);
        Edges.due(x.of(0, 4), 1);
        Edges.due(x.of(1, 4), 1);
    }

    private static void rules() {
        Edges.sentence("RULES, 12 at most, numbered as they come: LOWER, UPPER (unlike PAPERS)");
        LatticeGrader x = Edges.with(10, 20, 30, 40, 50, 60, 70);
        int[] lowers = {6, 0, 5, 1, 4, 2, 6, 0, 6, 3, 0, 1};
        int[] uppers = {0, 5, 1, 4, 2, 3, 3, 3, 5, 6, 4, 2};
        int there = 0;
        for (int r = 0; r < 12; r++) {
            // From 3 to 6 would close a way.
            int due = r == 9 ? -3 : there++;
            Edges.due(x.rule(lowers[r], uppers[r]), due);
            Edges.due(x.count(1), there);
        }
        Edges.due(there, 11);
        Edges.due(x.rule(6, 1), 11);
        Edges.due(x.rule(6, 2), -6);
        Edges.due(x.count(1), 12);
        for (int r = 0; r < 12; r++) {
            Edges.due(x.ruleOf(r, 0), r < 9 ? lowers[r] : r == 11 ? 6 : lowers[r + 1]);
            Edges.due(x.ruleOf(r, 1), r < 9 ? uppers[r] : r == 11 ? 1 : uppers[r + 1]);
        }
        Edges.sentence("ruleOf 2: whether MARK of LOWER is above UPPER's (1, 0)");
        LatticeGrader y = Edges.with(50, 50);
        y.rule(0, 1);
        Edges.due(y.ruleOf(0, 2), 0);
        Edges.due(y.count(6), 0);
        y.raw(0, 51);
        Edges.due(y.ruleOf(0, 2), 1);
        Edges.due(y.count(6), 1);
        y.raw(0, 49);
        Edges.due(y.ruleOf(0, 2), 0);
        y.kind(0, 1, 2);
        Edges.due(y.ruleOf(0, 2), 1);
    }

    private static void rulesTakenAway() {
        Edges.sentence("is one taken away, later ones have 1 less");
        for (int away = 0; away < 12; away++) {
            LatticeGrader x = Edges.made(Edges::full);
            int[] lowers = new int[12];
            int[] uppers = new int[12];
            for (int r = 0; r < 12; r++) {
                lowers[r] = x.ruleOf(r, 0);
                uppers[r] = x.ruleOf(r, 1);
            }
            Edges.due(x.free(away), 11);
            for (int r = 0; r < 11; r++) {
                Edges.due(x.ruleOf(r, 0), lowers[r < away ? r : r + 1]);
                Edges.due(x.ruleOf(r, 1), uppers[r < away ? r : r + 1]);
            }
            Edges.due(x.ruleOf(11, 0), -1);
            Edges.due(x.free(11), -1);
            Edges.due(x.rule(lowers[away], uppers[away]), 11);
            Edges.due(x.ruleOf(11, 1), uppers[away]);
        }
        Edges.sentence("A RULE is taken away: how many there are");
        LatticeGrader x = Edges.made(Edges::full);
        for (int left = 11; left >= 0; left--) {
            Edges.due(x.free(left % 2 == 0 ? 0 : left), left);
            Edges.due(x.count(1), left);
        }
        Edges.due(x.free(0), -1);
        Edges.due(x.binds(0), 0);
    }

    private static void under() {
        Edges.sentence("UNDER another one, if by one RULE or more, from LOWER to UPPER each, one comes from it to that one");
        LatticeGrader x = Edges.with(1, 1, 1, 1, 1, 1, 1);
        // From 6 to 0 by six RULES, told from the far end.
        for (int p = 0; p < 6; p++) {
            x.rule(p + 1, p);
        }
        for (int one = 0; one < 7; one++) {
            for (int other = 0; other < 7; other++) {
                Edges.due(x.under(one, other), one == other ? -1 : one > other ? 1 : 0);
            }
        }
        x.free(3);
        for (int one = 0; one < 7; one++) {
            for (int other = 0; other < 7; other++) {
                boolean isBelow = one > other && (one <= 3 || other > 3);
                Edges.due(x.under(one, other), one == other ? -1 : isBelow ? 1 : 0);
            }
        }
        Edges.sentence("from LOWER to UPPER each");
        LatticeGrader y = Edges.with(1, 2, 3, 4);
        y.rule(0, 2);
        y.rule(1, 2);
        y.rule(1, 3);
        Edges.due(y.under(0, 1), 0);
        Edges.due(y.under(1, 0), 0);
        Edges.due(y.under(0, 3), 0);
        Edges.due(y.under(2, 0), 0);
        Edges.due(y.under(1, 3), 1);
        Edges.due(y.under(2, 3), 0);
    }

    private static void rulesAndUnder() {
        Edges.sentence("-3 there is one with these, or UPPER is UNDER LOWER");
        LatticeGrader x = Edges.with(1, 2, 3, 4);
        Edges.due(x.rule(0, 1), 0);
        Edges.due(x.rule(0, 1), -3);
        Edges.due(x.rule(1, 0), -3);
        Edges.due(x.rule(1, 2), 1);
        Edges.due(x.rule(2, 3), 2);
        Edges.due(x.rule(3, 0), -3);
        Edges.due(x.rule(2, 0), -3);
        // LOWER may be UNDER UPPER by others already.
        Edges.due(x.rule(0, 3), 3);
        Edges.due(x.rule(0, 2), 4);
        Edges.due(x.free(1), 4);
        // 0 still is UNDER 2 and 3, 1 is not.
        Edges.due(x.rule(2, 1), 4);
        Edges.due(x.rule(1, 3), 5);
        Edges.due(x.rule(3, 2), -3);
        Edges.due(x.rule(1, 0), -3);
        Edges.due(x.count(13), 6);
    }

    private static void pairs() {
        Edges.sentence("PAIRS: twos, the one UNDER the other, its MARK above the other's");
        LatticeGrader none = new LatticeGrader();
        Edges.due(none.pairs(0), 0);
        Edges.due(none.pairs(1), 0);
        LatticeGrader x = Edges.with(50, 50);
        Edges.due(x.pairs(0), 0);
        x.raw(0, 99);
        Edges.due(x.pairs(0), 0);
        x.rule(0, 1);
        Edges.due(x.pairs(0), 1);
        x.raw(0, 51);
        Edges.due(x.pairs(0), 1);
        x.raw(0, 50);
        Edges.due(x.pairs(0), 0);
        x.raw(1, 51);
        Edges.due(x.pairs(0), 0);
        // Each of seven above each of those it is UNDER; two ways make no more of it.
        LatticeGrader all = Edges.made(Edges::full);
        Edges.due(all.pairs(0), 12);
        LatticeGrader chain = Edges.with(99, 90, 80, 70, 60, 50, 40);
        for (int p = 0; p < 6; p++) {
            chain.rule(p, p + 1);
        }
        Edges.due(chain.pairs(0), 21);
        chain.rule(0, 6);
        chain.rule(0, 2);
        Edges.due(chain.pairs(0), 21);
        Edges.due(chain.pairs(1), 63);
        // By MARK, not by RAW.
        LatticeGrader late = Edges.with(30, 20);
        late.rule(0, 1);
        late.kind(0, 2, 3);
        Edges.due(late.pairs(0), 1);
        late.kind(0, 2, 4);
        Edges.due(late.pairs(0), 0);
    }

    private static void leave() {
        Edges.sentence("LEAVE: the fewest PAPERS (bits; of several the least) so that one of each two of the PAIRS, at least, is of them");
        LatticeGrader one = Edges.with(5, 80, 20);
        one.rule(1, 2);
        Edges.due(one.pairs(1), 2);
        LatticeGrader turned = Edges.with(5, 20, 80);
        turned.rule(2, 1);
        Edges.due(turned.pairs(1), 2);
        // 3 alone is fewer than 0, 1, 2.
        LatticeGrader fan = Edges.with(60, 70, 80, 5);
        for (int l = 0; l < 3; l++) {
            fan.rule(l, 3);
        }
        Edges.due(fan.pairs(1), 8);
        fan.raw(2, 5);
        Edges.due(fan.pairs(1), 8);
        fan.raw(1, 4);
        Edges.due(fan.pairs(1), 1);
        fan.raw(0, 5);
        Edges.due(fan.pairs(1), 0);
        // Two PAIRS apart: of each the lesser number.
        LatticeGrader two = Edges.with(80, 70, 20, 10);
        two.rule(0, 3);
        two.rule(1, 2);
        Edges.due(two.pairs(1), 3);
        // 6 with 5, and 6 with 4: the last one alone.
        LatticeGrader last = Edges.with(1, 2, 3, 4, 50, 60, 9);
        last.rule(4, 6);
        last.rule(5, 6);
        Edges.due(last.pairs(1), 64);
        // A way of four, three PAIRS by RULES and three more by ways: three of four.
        LatticeGrader way = Edges.with(40, 30, 20, 10);
        way.rule(0, 1);
        way.rule(1, 2);
        way.rule(2, 3);
        Edges.due(way.pairs(1), 7);
        // 0 over 2, 1 over 2, 1 over 3: two of four, the least such are 0 and 1.
        LatticeGrader bend = Edges.with(40, 30, 20, 10);
        bend.rule(0, 2);
        bend.rule(1, 2);
        bend.rule(1, 3);
        Edges.due(bend.pairs(1), 3);
    }

    private static void limits() {
        Edges.sentence("LIMITS: 5 at most, 1 .. 99, each above the one ahead");
        LatticeGrader x = new LatticeGrader();
        Edges.due(x.limit(1), 1);
        Edges.due(x.limit(1), -3);
        Edges.due(x.limit(2), 2);
        Edges.due(x.limit(1), -3);
        Edges.due(x.limit(50), 3);
        Edges.due(x.limit(50), -3);
        Edges.due(x.limit(49), -3);
        Edges.due(x.limit(98), 4);
        Edges.due(x.limit(99), 5);
        Edges.due(x.limit(99), -6);
        Edges.due(x.count(2), 5);
        Edges.sentence("There are no LIMITS then: how many there were");
        Edges.due(x.limits(), 5);
        Edges.due(x.count(2), 0);
        Edges.due(x.limits(), 0);
        Edges.due(x.limit(99), 1);
        Edges.due(x.limit(99), -3);
        Edges.due(x.limit(1), -3);
        Edges.due(x.limits(), 1);
        // A new first one need not be above the last of those that were.
        Edges.due(x.limit(1), 1);
        Edges.due(x.limits(), 1);
    }

    private static void grades() {
        Edges.sentence("GRADE of a number: how many LIMITS are not above it");
        LatticeGrader x = Edges.with(0, 99);
        Edges.due(x.of(0, 7), 0);
        Edges.due(x.of(1, 7), 0);
        int[] limits = {1, 20, 21, 98, 99};
        for (int limit : limits) {
            x.limit(limit);
        }
        int[] raws = {0, 1, 2, 19, 20, 21, 22, 97, 98, 99};
        int[] due = {0, 1, 1, 1, 2, 3, 3, 3, 4, 5};
        for (int i = 0; i < raws.length; i++) {
            x.raw(0, raws[i]);
            Edges.due(x.of(0, 7), due[i]);
        }
        // GRADE of MARK, which may be above 99.
        x.kind(0, 4, 9);
        Edges.due(x.of(0, 7), 5);
        x.kind(0, 2, 9);
        Edges.due(x.of(0, 7), 3);
        x.limits();
        Edges.due(x.of(0, 7), 0);
    }

    private static void ties() {
        Edges.sentence("TIES: 0 FREE (at first), 1 TOGETHER, 2 MEANS; TIES become others: what they were");
        LatticeGrader x = new LatticeGrader();
        Edges.due(x.count(3), 0);
        int[] ways = {0, 1, 2, 2, 0, 2, 1, 1, 0};
        int had = 0;
        for (int way : ways) {
            Edges.due(x.ties(way), had);
            Edges.due(x.count(3), way);
            had = way;
        }
    }
}
