/** The promises 1 to 22 one by one: ordinary inputs, the edges that the document names, wrong inputs. */
public final class PromiseTest {
    private static final int NONE = UnitTurns.NONE, BAD = UnitTurns.BAD, NO = UnitTurns.NO;
    private static final int FULL = UnitTurns.FULL, MUCH = UnitTurns.MUCH;
    private static final int LOW = Integer.MIN_VALUE, HIGH = Integer.MAX_VALUE;
    private static int checks = 0;
    private static int wrong = 0;
    private static int promise = 0;

    public static void main(String[] args) {
        promise1();
        promise2();
        promise3();
        promise4();
        promise5();
        promise6();
        promise7();
        promise8();
        promise9();
        promise10();
        promise11();
        promise12();
        promise13();
        promise14();
        promise15();
        promise16();
        promise17();
        promise18();
        promise19Faults();
        promise19Orders();
        promise20();
        promise21();
        promise22();
        System.out.println(checks + " checks, " + wrong + " wrong");
        if (wrong != 0) {
            System.exit(1);
        }
    }

    private static void due(String call, long got, long want) {
        checks++;
        if (got != want) {
            wrong++;
            System.out.println("promise " + promise + ": " + call + " answered " + got + ", due is " + want);
        }
    }

    /** What told(0) to told(9) answer, behind one another. */
    private static void dueTold(String when, UnitTurns x, int... want) {
        for (int what = 0; what < 10; what++) {
            due(when + ": told(" + what + ")", x.told(what), want[what]);
        }
    }

    private static void type(UnitTurns x, String text) {
        for (int n = 0; n < text.length(); n++) {
            x.type(text.charAt(n));
        }
    }

    private static int reads(UnitTurns x, String text) {
        x.clear();
        type(x, text);
        return x.reads();
    }

    /** Two kinds, (1, 0, 0) with latency 2 and (9, 2, 0) with latency 4, and a block of them. */
    private static UnitTurns block(int... kinds) {
        UnitTurns x = new UnitTurns();
        x.kind(1, 0, 0, 2);
        x.kind(9, 2, 0, 4);
        for (int k : kinds) {
            x.instruction(k);
        }
        return x;
    }

    private static void dueTurns(String what, UnitTurns x, int rule, int length, int... turns) {
        due(what + ": length", rule < 0 ? x.best(NONE) : x.ranked(rule, NONE), length);
        for (int i = 0; i < turns.length; i++) {
            due(what + ": turn of " + i, rule < 0 ? x.best(i) : x.ranked(rule, i), turns[i]);
        }
    }

    private static void promise1() {
        promise = 1;
        UnitTurns x = new UnitTurns();
        dueTold("new", x, 0, 0, 0, 0, 0, 0, 0, 1, 0, 0);
        due("states()", x.states(), 1);
        due("classes()", x.classes(), 1);
        due("bound()", x.bound(), 0);
        due("best(NONE)", x.best(NONE), 0);
        due("ranked(2, NONE)", x.ranked(2, NONE), 0);
        due("plan(0)", x.plan(0), 0);
        due("state(0, 3)", x.state(0, 3), 0);
        due("two objects share nothing", x.kind(1, 1, 1, 1) + new UnitTurns().told(5), 0);
    }

    private static void promise2() {
        promise = 2;
        UnitTurns x = new UnitTurns();
        due("kind(0, 0, 0, 1)", x.kind(0, 0, 0, 1), 0);
        due("kind(15, 15, 15, 5)", x.kind(15, 15, 15, 5), 1);
        int[][] bad = {{-1, 0, 0, 1}, {16, 0, 0, 1}, {0, -1, 0, 1}, {0, 16, 0, 1}, {0, 0, -1, 1}, {0, 0, 16, 1},
            {0, 0, 0, 0}, {0, 0, 0, 6}, {LOW, 0, 0, 1}, {0, HIGH, 0, 1}, {0, 0, LOW, 1}, {0, 0, 0, HIGH}};
        for (int[] b : bad) {
            due("kind with a bad number", x.kind(b[0], b[1], b[2], b[3]), BAD);
        }
        due("alike kinds are two", x.kind(15, 15, 15, 5), 2);
        x.kind(1, 2, 3, 4);
        due("the fifth", x.kind(4, 3, 2, 1), 4);
        due("a sixth", x.kind(1, 1, 1, 1), FULL);
        due("a bad sixth", x.kind(1, 1, 1, 6), BAD);
        due("of(3, 0)", x.of(3, 0), 1);
        due("of(3, 1)", x.of(3, 1), 2);
        due("of(3, 2)", x.of(3, 2), 3);
        due("of(3, 3)", x.of(3, 3), 4);
        dueTold("behind kinds", x, 13, 0, 1, 0, 0, 5, 0, 1, 0, 5);
    }

    private static void promise3() {
        promise = 3;
        UnitTurns x = new UnitTurns();
        due("sets(0, 3)", x.sets(0, 3), 1);
        due("sets(0, 2)", x.sets(0, 2), 3);
        due("sets(0, 2) again", x.sets(0, 2), 2);
        due("sets(1, 1)", x.sets(1, 1), 0);
        due("a fifth leaves a state back", x.told(9), 4);
        due("sets(1, 1) again", x.sets(1, 1), 1);
        due("sets(1, 0)", x.sets(1, 0), 1);
        int[][] bad = {{0, 0}, {0, 4}, {0, -1}, {1, -1}, {1, 2}, {2, 1}, {-1, 1}, {LOW, 1}, {0, HIGH}, {1, LOW}};
        for (int[] b : bad) {
            due("sets(" + b[0] + ", " + b[1] + ")", x.sets(b[0], b[1]), BAD);
        }
        dueTold("behind sets", x, 10, 0, 0, 0, 0, 0, 0, 2, 0, 5);
    }

    private static void promise4() {
        promise = 4;
        UnitTurns x = new UnitTurns();
        due("of(0, 0) without kinds", x.of(0, 0), BAD);
        x.kind(8, 15, 0, 3);
        x.kind(0, 0, 7, 5);
        int[] want = {8, 15, 0, 3, 0};
        for (int what = 0; what < 5; what++) {
            due("of(0, " + what + ")", x.of(0, what), want[what]);
        }
        x.instruction(1);
        x.instruction(0);
        x.instruction(1);
        due("of(0, 4)", x.of(0, 4), 1);
        due("of(1, 4)", x.of(1, 4), 2);
        x.drops(0);
        due("of(1, 4) behind drops", x.of(1, 4), 1);
        due("of(1, 2)", x.of(1, 2), 7);
        int[][] bad = {{2, 0}, {-1, 0}, {0, 5}, {0, -1}, {LOW, 0}, {HIGH, 0}, {0, LOW}, {0, HIGH}};
        for (int[] b : bad) {
            due("of(" + b[0] + ", " + b[1] + ")", x.of(b[0], b[1]), BAD);
        }
        due("told(0)", x.told(0), 9);
    }

    private static UnitTurns kinds(int[]... kinds) {
        UnitTurns x = new UnitTurns();
        for (int[] k : kinds) {
            x.kind(k[0], k[1], k[2], 1);
        }
        return x;
    }

    private static void promise5() {
        promise = 5;
        due("one kind of no holds", kinds(new int[] {0, 0, 0}).states(), 1);
        due("one turn of one unit", kinds(new int[] {1, 0, 0}).states(), 2);
        due("all turns of a unit", kinds(new int[] {15, 0, 0}).states(), 5);
        due("turn 3 alone can be held at all turns", kinds(new int[] {8, 0, 0}).states(), 16);
        due("two units, each its own kind", kinds(new int[] {2, 0, 0}, new int[] {0, 2, 0}).states(), 16);
        due("a kind across two units", kinds(new int[] {1, 2, 0}).states(), 4);
        UnitTurns x = kinds(new int[] {8, 0, 0}, new int[] {0, 8, 0}, new int[] {0, 0, 8});
        due("16 by 16 by 16", x.states(), MUCH);
        due("it counts", x.told(3), 1);
        due("and again", x.states() + x.told(3), MUCH + 2);
        x.back();
        due("16 by 16", x.states(), MUCH);
        x.back();
        due("16", x.states(), 16);
        x.sets(0, 3);
        due("width aside", x.states(), 16);
        int[][] edge = {{8, 0, 8}, {2, 1, 11}, {4, 0, 0}, {15, 1, 2}, {8, 3, 12}};
        int[][] beyond = {{4, 8, 6}, {2, 0, 1}, {4, 0, 8}, {2, 13, 0}};
        due("150 are counted without a limit", countStates(edge), 150);
        due("150 are not too many", kinds(edge).states(), 150);
        due("the last of 150", kinds(edge).state(149, 3) >= 0 ? 1 : 0, 1);
        due("none behind it", kinds(edge).state(150, 3), BAD);
        due("151 are counted without a limit", countStates(beyond), 151);
        due("151 are too many", kinds(beyond).states(), MUCH);
    }

    /** Counts without a limit. */
    private static int countStates(int[]... kinds) {
        boolean[] seen = new boolean[4096];
        int[] list = new int[4096];
        int n = 1;
        seen[0] = true;
        for (int s = 0; s < n; s++) {
            for (int k = 0; k <= kinds.length; k++) {
                int h = k < kinds.length ? kinds[k][0] | kinds[k][1] << 4 | kinds[k][2] << 8 : 0;
                int next = k == kinds.length ? list[s] >> 1 & 0x777 : (list[s] & h) == 0 ? list[s] | h : 0;
                if (!seen[next]) {
                    seen[next] = true;
                    list[n++] = next;
                }
            }
        }
        return n;
    }

    private static void promise6() {
        promise = 6;
        UnitTurns x = new UnitTurns();
        due("state(0, 4) without kinds", x.state(0, 4), BAD);
        due("state(1, 0) without kinds", x.state(1, 0), BAD);
        x.kind(1, 0, 0, 2);
        x.kind(9, 2, 0, 4);
        // Numbered as found: 0 empty; by kinds 1 (1,0), 2 (9,2); of 1 by pass 0; of 2 by pass 3 (4,1), ..
        int[][] holds = {{0, 0, 0}, {1, 0, 0}, {9, 2, 0}, {4, 1, 0}};
        for (int s = 0; s < holds.length; s++) {
            for (int u = 0; u < 3; u++) {
                due("state(" + s + ", " + u + ")", x.state(s, u), holds[s][u]);
            }
        }
        int[][] next = {{0, 1, 2}, {0, NONE, NONE}, {3, NONE, NONE}};
        for (int s = 0; s < next.length; s++) {
            for (int letter = 0; letter < 3; letter++) {
                due("state(" + s + ", " + (3 + letter) + ")", x.state(s, 3 + letter), next[s][letter]);
            }
        }
        due("a unit that is free reads the kind", x.state(3, 4), 4);
        due("a new state behind it", x.state(4, 0), 5);
        due("NONE is no refusal", x.told(0), 2);
        int[][] bad = {{-1, 0}, {12, 0}, {0, -1}, {0, 6}, {HIGH, 0}, {LOW, 0}, {0, HIGH}, {0, LOW}, {-1, -1}};
        for (int[] b : bad) {
            due("state(" + b[0] + ", " + b[1] + ")", x.state(b[0], b[1]), BAD);
        }
        due("the last state", x.state(11, 3) >= 0 ? 1 : 0, 1);
        due("told(0)", x.told(0), 11);
        x = kinds(new int[] {8, 0, 0}, new int[] {0, 8, 0});
        due("too many: state(HIGH, 0)", x.state(HIGH, 0), MUCH);
        due("too many: state(0, 5)", x.state(0, 5), MUCH);
        due("too many: state(0, 6)", x.state(0, 6), BAD);
        due("too many: state(-1, 0)", x.state(-1, 0), BAD);
        due("too many: state(0, -1)", x.state(0, -1), BAD);
        due("told(3)", x.told(3), 2);
        due("told(0)", x.told(0), 3);
        x = kinds(new int[] {0, 0, 0});
        due("a kind of no holds leaves the state", x.state(0, 4), 0);
    }

    private static void promise7() {
        promise = 7;
        due("two units held as one tell nothing more", kinds(new int[] {3, 3, 0}).classes(), 3);
        UnitTurns x = kinds(new int[] {4, 0, 0});
        due("turn 2 alone: states", x.states(), 8);
        due("turn 2 alone: whether turn 2 is held now tells all", x.classes(), 2);
        x = kinds(new int[] {2, 1, 0});
        due("states", x.states(), 4);
        due("only what was begun now clashes", x.classes(), 2);
        x = kinds(new int[] {3, 0, 0});
        due("three states, each its own", x.classes(), 3);
        x.kind(2, 0, 0, 1);
        due("a kind and a state more", x.states(), 4);
        due("but the new state tells nothing new", x.classes(), 3);
        x = kinds(new int[] {0, 0, 0}, new int[] {0, 0, 0});
        due("no holds", x.classes(), 1);
        x = kinds(new int[] {8, 0, 0}, new int[] {0, 8, 0});
        due("too many", x.classes(), MUCH);
        due("it counts", x.told(3), 1);
        x.sets(0, 2);
        due("too many still", x.classes(), MUCH);
    }

    private static void promise8() {
        promise = 8;
        UnitTurns x = kinds(new int[] {4, 0, 0});
        // 0 empty, 1 (4), 2 (2) by pass, 3 (6) by the kind from 2, 4 (1) by pass from 2, ..
        due("state(2, 0)", x.state(2, 0), 2);
        due("alike(0, 2)", x.alike(0, 2), 1);
        due("alike(2, 0)", x.alike(2, 0), 1);
        due("alike(1, 3)", x.alike(1, 3), 1);
        due("alike(0, 1)", x.alike(0, 1), 0);
        due("alike(3, 3)", x.alike(3, 3), 1);
        for (int s = 0; s < 8; s++) {
            due("alike(" + s + ", 0)", x.alike(s, 0), x.state(s, 0) >= 4 ? 0 : 1);
        }
        int[][] bad = {{8, 0}, {0, 8}, {-1, 0}, {0, -1}, {LOW, HIGH}, {HIGH, 0}, {0, HIGH}};
        for (int[] b : bad) {
            due("alike(" + b[0] + ", " + b[1] + ")", x.alike(b[0], b[1]), BAD);
        }
        x = kinds(new int[] {8, 0, 0}, new int[] {0, 8, 0});
        due("too many", x.alike(0, 0), MUCH);
        due("too many, far", x.alike(HIGH, HIGH), MUCH);
        due("too many, below", x.alike(-1, 0), BAD);
        due("too many, below", x.alike(0, -1), BAD);
        due("told(3)", x.told(3), 2);
        x = kinds(new int[] {1, 0, 0}, new int[] {4, 0, 0});
        due("state(4, 0)", x.state(4, 0), 2);
        due("from 4 as from 0 both kinds can be read", Math.min(x.state(4, 4), x.state(4, 5)) > 0 ? 1 : 0, 1);
        due("but not behind a pass", x.alike(0, 4), 0);
    }

    private static void promise9() {
        promise = 9;
        UnitTurns x = new UnitTurns();
        due("instruction(0) without kinds", x.instruction(0), BAD);
        x.kind(1, 0, 0, 1);
        for (int i = 0; i < 6; i++) {
            due("instruction(0)", x.instruction(0), i);
        }
        due("a seventh", x.instruction(0), FULL);
        due("a bad seventh", x.instruction(1), BAD);
        due("instruction(-1)", x.instruction(-1), BAD);
        due("instruction(HIGH)", x.instruction(HIGH), BAD);
        due("instruction(LOW)", x.instruction(LOW), BAD);
        dueTold("behind instructions", x, 5, 0, 1, 0, 0, 1, 6, 1, 0, 5);
    }

    private static void promise10() {
        promise = 10;
        UnitTurns x = block(0, 1, 0, 1);
        due("needs(1, 0, 1)", x.needs(1, 0, 1), 0);
        due("needs(1, 0, 2)", x.needs(1, 0, 2), 1);
        due("needs(1, 0, 2) again", x.needs(1, 0, 2), 2);
        due("needs(0, 1, 1): a ring of two", x.needs(0, 1, 1), NO);
        due("needs(0, 1, 2): a ring of two", x.needs(0, 1, 2), NO);
        due("needs(0, 1, 0): no ring by none", x.needs(0, 1, 0), 0);
        due("needs(2, 1, 2)", x.needs(2, 1, 2), 0);
        due("needs(3, 2, 1)", x.needs(3, 2, 1), 0);
        due("needs(0, 3, 1): a ring of four", x.needs(0, 3, 1), NO);
        due("needs(0, 3, 2): a ring of four", x.needs(0, 3, 2), NO);
        due("needs(3, 0, 2): none", x.needs(3, 0, 2), 0);
        x.sets(1, 1);
        due("renamed: a ring by anti, still", x.needs(0, 2, 1), NO);
        due("a ring refused changes nothing", x.about(0, 2) + x.about(0, 3), 0);
        due("needs(2, 1, 0)", x.needs(2, 1, 0), 2);
        due("needs(3, 0, 0)", x.needs(3, 0, 0), 2);
        due("the ring is open", x.needs(0, 3, 1), 0);
        int[][] bad = {{0, 0, 1}, {0, 0, 0}, {4, 0, 1}, {0, 4, 1}, {-1, 0, 1}, {0, -1, 1}, {0, 1, 3}, {0, 1, -1},
            {LOW, 0, 1}, {HIGH, 0, 1}, {0, HIGH, 1}, {0, LOW, 1}, {0, 1, HIGH}, {0, 1, LOW}};
        for (int[] b : bad) {
            due("needs(" + b[0] + ", " + b[1] + ", " + b[2] + ")", x.needs(b[0], b[1], b[2]), BAD);
        }
        due("told(0)", x.told(0), bad.length);
        due("told(1)", x.told(1), 5);
    }

    private static void promise11() {
        promise = 11;
        UnitTurns x = block(0, 1, 0, 1);
        x.needs(1, 0, 1);
        x.needs(2, 1, 2);
        x.needs(3, 2, 1);
        x.needs(3, 0, 2);
        due("drops(4)", x.drops(4), BAD);
        due("drops(-1)", x.drops(-1), BAD);
        due("drops(LOW)", x.drops(LOW), BAD);
        due("drops(HIGH)", x.drops(HIGH), BAD);
        due("drops(1)", x.drops(1), 3);
        int[] kinds = {0, 0, 1};
        for (int i = 0; i < 3; i++) {
            due("about(" + i + ", 0)", x.about(i, 0), kinds[i]);
        }
        due("needs of the last stay", x.needs(2, 1, 1), 1);
        due("and the anti one", x.needs(2, 0, 2), 2);
        due("needs of what went are gone", x.about(1, 2) + x.about(1, 3), 0);
        due("a new one", x.instruction(0), 3);
        due("needs nothing", x.about(3, 2) + x.about(3, 3), 0);
        due("is needed by none", x.about(3, 1), 2);
        due("drops(3)", x.drops(3), 3);
        due("drops(0)", x.drops(0), 2);
        due("drops(1)", x.drops(1), 1);
        due("drops(0)", x.drops(0), 0);
        due("drops(0) of none", x.drops(0), BAD);
        due("told(0)", x.told(0), 5);
        x = block(0, 0);
        x.needs(1, 0, 1);
        x.drops(1);
        x.instruction(0);
        due("in the place of the last, no needs", x.about(1, 2), 0);
        due("and none that need it", x.about(0, 1), 2);
    }

    private static void promise12() {
        promise = 12;
        UnitTurns x = block(1, 0, 0, 1);
        x.needs(1, 0, 1);
        x.needs(2, 1, 2);
        x.needs(3, 2, 1);
        x.needs(3, 1, 2);
        int[][] want = {{1, 10, 0, 0, 0}, {0, 6, 1, 0, 4}, {0, 6, 0, 1, 4}, {1, 4, 1, 1, 6}};
        dueAbout("not renamed", x, want);
        x.sets(1, 1);
        int[][] renamed = {{1, 6, 0, 0, 0}, {0, 2, 1, 0, 4}, {0, 6, 0, 1, 0}, {1, 4, 1, 1, 2}};
        dueAbout("renamed", x, renamed);
        int[][] bad = {{4, 0}, {-1, 0}, {0, 5}, {0, -1}, {HIGH, 0}, {LOW, 0}, {0, HIGH}, {0, LOW}};
        for (int[] b : bad) {
            due("about(" + b[0] + ", " + b[1] + ")", x.about(b[0], b[1]), BAD);
        }
        due("told(0)", x.told(0), bad.length);
        x = new UnitTurns();
        x.kind(0, 0, 8, 2);
        x.instruction(0);
        due("a span by holds", x.about(0, 1), 4);
        x.instruction(0);
        x.needs(1, 0, 1);
        due("latency, not span, to one that needs it", x.about(0, 1), 6);
        due("and for its least turn", x.about(1, 4), 2);
    }

    private static void dueAbout(String when, UnitTurns x, int[][] want) {
        for (int i = 0; i < want.length; i++) {
            for (int what = 0; what < 5; what++) {
                due(when + ": about(" + i + ", " + what + ")", x.about(i, what), want[i][what]);
            }
        }
    }

    private static void promise13() {
        promise = 13;
        UnitTurns x = block(1, 0, 0, 1);
        due("by a unit", x.bound(), 6);
        x.needs(1, 0, 1);
        x.needs(2, 1, 2);
        x.needs(3, 2, 1);
        due("by a way", x.bound(), 10);
        x.sets(1, 1);
        due("renamed", x.bound(), 6);
        x = new UnitTurns();
        x.kind(0, 0, 0, 1);
        due("none", x.bound(), 0);
        for (int i = 0; i < 5; i++) {
            x.instruction(0);
        }
        due("by width 1", x.bound(), 5);
        x.sets(0, 2);
        due("by width 2, up", x.bound(), 3);
        x.sets(0, 3);
        due("by width 3, up", x.bound(), 2);
        x = new UnitTurns();
        x.kind(1, 0, 7, 1);
        x.instruction(0);
        x.instruction(0);
        due("by unit 2", x.bound(), 6);
        x = new UnitTurns();
        x.kind(0, 11, 0, 1);
        x.instruction(0);
        x.instruction(0);
        due("by unit 1, the turns that are held", x.bound(), 6);
        due("kinds alone count nothing", kinds(new int[] {15, 15, 15}).bound(), 0);
    }

    private static void promise14() {
        promise = 14;
        UnitTurns x = block(1, 0, 0, 1);
        dueTurns("free", x, -1, 6, 0, 1, 4, 2);
        x.needs(1, 0, 1);
        x.needs(2, 1, 2);
        x.needs(3, 2, 1);
        dueTurns("in a row", x, -1, 11, 0, 4, 5, 7);
        x.sets(1, 1);
        dueTurns("renamed", x, -1, 7, 1, 5, 0, 3);
        int[] bad = {4, -2, HIGH, LOW};
        for (int i : bad) {
            due("best(" + i + ")", x.best(i), BAD);
        }
        due("told(0)", x.told(0), 4);
        x = new UnitTurns();
        due("best(0) of none", x.best(0), BAD);
        x.kind(0, 0, 0, 5);
        for (int i = 0; i < 6; i++) {
            x.instruction(0);
            if (i > 0) {
                x.needs(i, i - 1, 1);
            }
        }
        dueTurns("the longest there is", x, -1, 30, 0, 5, 10, 15, 20, 25);
        for (int rule = 0; rule < 3; rule++) {
            dueTurns("the longest there is, by ranks", x, rule, 30, 0, 5, 10, 15, 20, 25);
        }
        x = new UnitTurns();
        x.kind(0, 0, 0, 3);
        x.kind(0, 0, 0, 1);
        x.instruction(1);
        x.instruction(0);
        x.instruction(1);
        dueTurns("the least length first, then the lesser turn of 0", x, -1, 3, 1, 0, 2);
        x.sets(0, 2);
        dueTurns("two at a turn", x, -1, 3, 0, 0, 1);
        x.sets(0, 3);
        dueTurns("three at a turn", x, -1, 3, 0, 0, 0);
        x.needs(0, 2, 2);
        dueTurns("anti at one turn", x, -1, 3, 0, 0, 0);
        x = new UnitTurns();
        x.kind(11, 0, 0, 1);
        for (int i = 0; i < 6; i++) {
            x.instruction(0);
        }
        dueTurns("far above the bound", x, -1, 24, 0, 4, 8, 12, 16, 20);
    }

    private static void promise15() {
        promise = 15;
        UnitTurns x = block(1, 0, 0, 1);
        dueTurns("by way", x, 0, 7, 0, 2, 5, 1);
        dueTurns("by numbers", x, 1, 8, 0, 1, 2, 4);
        dueTurns("by needs, none", x, 2, 8, 0, 1, 2, 4);
        x.needs(3, 2, 2);
        dueTurns("by needs, one", x, 2, 7, 1, 2, 0, 3);
        int[][] bad = {{-1, NONE}, {3, NONE}, {0, -2}, {0, 4}, {LOW, 0}, {HIGH, 0}, {0, LOW}, {0, HIGH}};
        for (int[] b : bad) {
            due("ranked(" + b[0] + ", " + b[1] + ")", x.ranked(b[0], b[1]), BAD);
        }
        due("told(0)", x.told(0), bad.length);
        rankedByAnti();
        rankedByWidth();
    }

    private static void rankedByAnti() {
        UnitTurns x = new UnitTurns();
        x.kind(0, 0, 0, 1);
        x.instruction(0);
        x.instruction(0);
        x.sets(0, 2);
        x.needs(1, 0, 2);
        dueTurns("anti behind it in the order: at one turn", x, 1, 1, 0, 0);
        x.needs(1, 0, 0);
        x.needs(0, 1, 2);
        dueTurns("anti ahead of it in the order: a turn later", x, 1, 2, 1, 0);
        dueTurns("by way the same", x, 0, 2, 1, 0);
        dueTurns("by needs 1 goes first", x, 2, 1, 0, 0);
        x.sets(1, 1);
        dueTurns("renamed", x, 1, 1, 0, 0);
    }

    private static void rankedByWidth() {
        UnitTurns x = new UnitTurns();
        x.kind(0, 0, 0, 1);
        x.kind(0, 0, 0, 2);
        int[] kinds = {0, 1, 0, 1, 0, 1};
        for (int k : kinds) {
            x.instruction(k);
        }
        dueTurns("one a turn", x, 1, 7, 0, 1, 2, 3, 4, 5);
        dueTurns("the longer first", x, 0, 6, 3, 0, 4, 1, 5, 2);
        x.sets(0, 2);
        dueTurns("two a turn", x, 0, 3, 1, 0, 2, 0, 2, 1);
        x.sets(0, 3);
        dueTurns("three a turn", x, 0, 2, 1, 0, 1, 0, 1, 0);
        x.needs(5, 4, 1);
        x.needs(3, 4, 2);
        x.needs(1, 2, 1);
        dueTurns("the more that need it first, either way", x, 2, 3, 0, 1, 0, 1, 0, 1);
        x.sets(1, 1);
        dueTurns("renamed: anti is none", x, 2, 3, 0, 1, 0, 1, 0, 1);
    }

    private static void promise16() {
        promise = 16;
        UnitTurns x = block(1, 0, 0, 1);
        due("plan(142): the best", x.plan(142), 6);
        due("plan(135): a unit twice", x.plan(135), NONE);
        due("plan(145): another", x.plan(145), 9);
        due("plan(9999)", x.plan(9999), NONE);
        due("plan(10000)", x.plan(10000), BAD);
        due("plan(-1)", x.plan(-1), BAD);
        due("plan(LOW)", x.plan(LOW), BAD);
        due("plan(HIGH)", x.plan(HIGH), BAD);
        due("plan(0)", x.plan(0), NONE);
        due("plan(5671)", x.plan(5671), 9);
        x.needs(1, 0, 1);
        due("plan(142): too soon", x.plan(142), NONE);
        due("plan(3612): too soon by one", x.plan(3612), NONE);
        due("plan(3712): just behind", x.plan(3712), 9);
        due("plan(5671): one behind", x.plan(5671), NONE);
        x.needs(1, 0, 2);
        due("plan(142): anti", x.plan(142), 6);
        due("plan(5671): anti kept", x.plan(5671), 9);
        due("plan(5371): anti broken", x.plan(5371), NONE);
        x.sets(1, 1);
        due("plan(5371): renamed", x.plan(5371), 9);
        due("told(0)", x.told(0), 4);
        planEdges();
    }

    private static void planEdges() {
        UnitTurns x = new UnitTurns();
        due("none: plan(0)", x.plan(0), 0);
        due("none: plan(1)", x.plan(1), BAD);
        due("none: plan(-1)", x.plan(-1), BAD);
        x.kind(0, 0, 0, 2);
        for (int i = 0; i < 6; i++) {
            x.instruction(0);
        }
        due("width 1", x.plan(12345), 7);
        due("width 1, two at a turn", x.plan(12344), NONE);
        due("six figures", x.plan(987654), 11);
        due("seven figures", x.plan(1000000), BAD);
        x.sets(0, 2);
        due("width 2, 0 in front", x.plan(1122), 4);
        due("width 2, three at a turn", x.plan(11221), NONE);
        x.sets(0, 3);
        due("width 3", x.plan(111222), 4);
        due("width 3, four at a turn", x.plan(111122), NONE);
        x.needs(5, 0, 2);
        due("anti at one turn", x.plan(100221), 4);
        due("anti a turn ahead", x.plan(200221), NONE);
    }

    private static void promise17() {
        promise = 17;
        UnitTurns x = new UnitTurns();
        due("type(0)", x.type(0), 1);
        due("type(127)", x.type(127), 2);
        due("type(128)", x.type(128), BAD);
        due("type(-1)", x.type(-1), BAD);
        due("type(HIGH)", x.type(HIGH), BAD);
        due("type(LOW)", x.type(LOW), BAD);
        for (int n = 3; n <= 120; n++) {
            due("type(32)", x.type(32), n);
        }
        due("one more", x.type(32), FULL);
        due("a bad one more", x.type(128), BAD);
        due("told(4)", x.told(4), 120);
        due("told(0)", x.told(0), 5);
        due("told(2)", x.told(2), 1);
        due("no state back", x.told(9), 0);
    }

    private static void promise18() {
        promise = 18;
        UnitTurns x = new UnitTurns();
        due("clear()", x.clear(), 0);
        type(x, "k 1");
        due("clear()", x.clear(), 3);
        due("clear() again", x.clear(), 0);
        due("told(4)", x.told(4), 0);
        due("no state back", x.told(9), 0);
        for (int n = 0; n < 120; n++) {
            x.type(65);
        }
        due("clear() of all", x.clear(), 120);
        due("type(65)", x.type(65), 1);
    }

    private static void promise19Faults() {
        promise = 19;
        String[] texts = {"", "   ", ";", "q", "K", "1", "k", "k ", "k1", "k1 ", "k1 2 3 4", "k1 2 3 4 ", "k1 2 3;",
            "k1 2 3 4 5;", "k1 2 3 100;", "k123 2 3 4;", "k1;", "k-1 2 3 4;", "k;", "i", "i;", "i0 0;", "i 00 ;  q",
            "i0;;", "i0; ;", "i0;i", "i0i0;", "i0,", "n0;", "n0 1 2;", "n01;", "n 0 1", "a0\t1;", "w1", "w 1 w", "r1 1;",
            "x0;x", "i000;", "i0 ;\n", "i\0", "ii0;", " k 1 2 3 4 i"};
        int[] faults = {0, 3, 0, 0, 0, 0, 1, 2, 2, 3, 8, 9, 6,
            9, 9, 3, 2, 1, 1, 1, 1, 3, 8,
            3, 4, 4, 2, 2, 2, 5, 3, 5, 2, 2, 4, 3,
            4, 3, 4, 1, 1, 11};
        UnitTurns x = new UnitTurns();
        x.kind(1, 0, 0, 1);
        for (int n = 0; n < texts.length; n++) {
            due("reads() of '" + texts[n] + "'", reads(x, texts[n]), -10 - faults[n]);
        }
        x.clear();
        dueTold("behind faults", x, 0, 0, 0, 0, 0, 1, 0, 1, 0, 1);
        due("a fault at the end", reads(x, blanks(117) + "i0 "), -130);
        due("a third figure at the end", reads(x, blanks(116) + "i000"), -129);
        due("all 120", reads(x, blanks(115) + "i0;  "), 1);
    }

    private static String blanks(int n) {
        return " ".repeat(n);
    }

    private static void promise19Orders() {
        UnitTurns x = new UnitTurns();
        due("all orders", reads(x, "k1 0 0 2;k09 02 00 04;i1;i0; i 0 ; i 1;n1 0;a2 1;n3 2;w2;r1;r0;x3;"), 13);
        dueTold("behind all", x, 0, 0, 0, 0, 66, 2, 3, 2, 0, 1);
        due("n: truly", x.needs(1, 0, 1), 1);
        due("a: anti", x.needs(2, 1, 2), 2);
        due("kind 1", x.of(1, 0) * 100 + x.of(1, 1) * 10 + x.of(1, 3), 924);
        due("text stays", x.told(4), 66);
        due("read again: a seventh instruction", x.reads(), -1005);
        String[] stopped = {"k16 0 0 1;", "k0 99 0 1;", "k0 0 16 1;", "k0 0 0 0;", "k0 0 0 6;", "w1;w0;", "w4;", "r2;", "i2;",
            "i0;i0;i0;i0;", "x3;", "x0;x0;x0;x0;", "n0 0;", "n3 0;", "n0 3;", "r1;n0 1;", "w3;a0 1;", "a1 1;",
            "k0 0 0 1;k0 0 0 1;k0 0 0 1;k0 0 0 1;"};
        int[] at = {0, 0, 0, 0, 0, 1, 0, 0, 0, 3, 0, 3, 0, 0, 0, 1, 1, 0, 3};
        x = new UnitTurns();
        reads(x, "k1 0 0 2;k9 2 0 4;i1;i0;i0;n1 0;a2 1;");
        for (int n = 0; n < stopped.length; n++) {
            due("reads() of '" + stopped[n] + "'", reads(x, stopped[n]), -1000 - at[n]);
        }
        x.clear();
        dueTold("nothing done, nothing counts", x, 0, 0, 0, 0, 0, 2, 3, 1, 0, 1);
        due("about(2, 3)", x.about(2, 3), 1);
        due("an order sees those ahead of it", reads(x, "k0 0 0 1;i2;n3 2;"), 3);
        due("one state back for all", x.back(), 1);
        due("told(5)", x.told(5), 2);
        due("told(6)", x.told(6), 3);
        due("text stays by back", x.told(4), 17);
        due("orders that change nothing leave one", reads(x, "w1;"), 1);
        due("told(9)", x.told(9), 2);
    }

    private static void promise20() {
        promise = 20;
        UnitTurns x = new UnitTurns();
        due("back() of none", x.back(), NO);
        x.kind(1, 2, 4, 3);
        x.instruction(0);
        x.instruction(0);
        x.needs(1, 0, 2);
        x.sets(0, 3);
        x.sets(1, 1);
        x.drops(0);
        due("told(9)", x.told(9), 5);
        due("refused leaves none", x.drops(7), BAD);
        due("back from drops", x.back(), 4);
        due("two again", x.told(6), 2);
        due("the need again", x.about(1, 3), 1);
        due("renamed still", x.told(8), 1);
        due("back from sets", x.back(), 3);
        due("not renamed", x.told(8), 0);
        due("width still", x.told(7), 3);
        due("back from sets", x.back(), 2);
        due("width 1", x.told(7), 1);
        due("back from needs", x.back(), 1);
        due("no need", x.about(1, 3), 0);
        due("back from instruction", x.back(), 0);
        due("one", x.told(6), 1);
        due("older ones are lost", x.back(), NO);
        due("told(1)", x.told(1), 2);
        due("told(0) stays", x.told(0), 1);
        int states = countStates(new int[] {1, 2, 4});
        due("states()", x.states(), states);
        x.kind(8, 0, 0, 1);
        x.states();
        x.best(NONE);
        due("back from kind", x.back(), 0);
        due("what was answered ahead is not kept", x.states(), states);
        for (int n = 0; n < 9; n++) {
            x.sets(0, 1 + n % 3);
        }
        int[] widths = {2, 1, 3, 2, 1};
        for (int n = 0; n < 5; n++) {
            due("back()", x.back(), 4 - n);
            due("width", x.told(7), widths[n]);
        }
        due("back()", x.back(), NO);
    }

    private static void promise21() {
        promise = 21;
        UnitTurns x = new UnitTurns();
        due("told(-1)", x.told(-1), BAD);
        due("told(10)", x.told(10), BAD);
        due("told(HIGH)", x.told(HIGH), BAD);
        due("told(LOW)", x.told(LOW), BAD);
        dueTold("behind wrong ones", x, 4, 0, 0, 0, 0, 0, 0, 1, 0, 0);
        x.back();
        reads(x, "k8 0 0 1;k0 8 0 1;k0 0 8 1;k0 0 0 1;k0 0 0 1;i0;i0;i1;w2;r1;");
        x.kind(0, 0, 0, 1);
        x.states();
        x.classes();
        x.state(0, 0);
        x.alike(0, 0);
        dueTold("all", x, 4, 1, 1, 4, 60, 5, 3, 2, 1, 1);
        x.digest();
        due("digest counts nothing", x.told(3), 4);
    }

    private static void promise22() {
        promise = 22;
        UnitTurns x = new UnitTurns();
        int[] all = {0, 0, 0, 0, 0, 0, 0, 1, 0, 0, 1, 1, 0, 0, 0, 0, 0};
        due("new", x.digest(), hash(all));
        x.kind(8, 0, 0, 2);
        x.kind(0, 8, 0, 1);
        x.instruction(1);
        x.instruction(0);
        x.needs(0, 1, 2);
        x.type(32);
        x.back();
        x.back();
        x.back();
        x.back();
        x.back();
        x.back();
        x.type(128);
        int[] emptied = {1, 1, 0, 0, 1, 0, 0, 1, 0, 0, 1, 1, 0, 0, 0, 0, 0};
        due("emptied", x.digest(), hash(emptied));
        x.kind(8, 0, 0, 2);
        x.kind(0, 8, 0, 1);
        x.instruction(1);
        x.instruction(0);
        x.needs(0, 1, 2);
        int[] full = {1, 1, 0, 0, 1, 2, 2, 1, 0, 5, 8, 0, 0, 2, 1, 0, 8, 0, 1, 1, MUCH, MUCH,
            1, 4, 0, 1, 0, 0, 4, 0, 0, 0, 4, 5, 5, 5, 5};
        due("too many states", x.digest(), hash(full));
        due("again the same", x.digest(), hash(full));
    }

    private static long hash(int[] values) {
        long h = 2459;
        for (int v : values) {
            h = 31 * h + v;
        }
        return h;
    }
}
