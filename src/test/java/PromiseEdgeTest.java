/** Boundary cases that the promises 1 to 22 name, sentence by sentence. */
public final class PromiseEdgeTest extends Edges {
    /** Numbers far from all that is told. */
    private static final int[] FAR = {LOW, LOW + 1, -65536, -256, -100, 100, 256, 65536, 1 << 30, HIGH - 1, HIGH};

    public static void main(String[] args) {
        aNewObject();
        kind();
        sets();
        of();
        states();
        state();
        classes();
        alike();
        instruction();
        needs();
        drops();
        about();
        bound();
        best();
        ranked();
        plan();
        type();
        clear();
        reads();
        back();
        told();
        digest();
        end();
    }

    private static void aNewObject() {
        under("Promise 1: A new object");
        test("As told; no KINDS, no INSTRUCTIONS", () -> {
            UnitTurns x = new UnitTurns();
            due("of(0, 0)", x.of(0, 0), BAD);
            due("about(0, 0)", x.about(0, 0), BAD);
            due("best(0)", x.best(0), BAD);
            due("ranked(0, 0)", x.ranked(0, 0), BAD);
            due("drops(0)", x.drops(0), BAD);
            due("instruction(0)", x.instruction(0), BAD);
            due("needs(0, 1, 0)", x.needs(0, 1, 0), BAD);
            due("state(0, 4)", x.state(0, 4), BAD);
            due("back()", x.back(), NO);
            due("clear()", x.clear(), 0);
            due("states()", x.states(), 1);
            due("classes()", x.classes(), 1);
            due("alike(0, 0)", x.alike(0, 0), 1);
            dueTold("new", x, 8, 1, 0, 0, 0, 0, 0, 1, 0, 0);
            UnitTurns y = new UnitTurns();
            y.kind(1, 1, 1, 1);
            y.sets(0, 3);
            y.sets(1, 1);
            y.type(65);
            dueTold("another new one", new UnitTurns(), 0, 0, 0, 0, 0, 0, 0, 1, 0, 0);
        });
    }

    private static void kind() {
        under("Promise 2: kind");
        test("A KIND: its number. S", () -> {
            UnitTurns x = new UnitTurns();
            for (int k = 0; k < 5; k++) {
                due("kind " + k, x.kind(0, 0, 0, 1), k);
                due("told(5)", x.told(5), k + 1);
                due("told(9)", x.told(9), k + 1);
            }
        });
        test("BAD", () -> {
            UnitTurns x = new UnitTurns();
            int[][] bad = {{-1, 0, 0, 1}, {0, -1, 0, 1}, {0, 0, -1, 1}, {0, 0, 0, 0}, {16, 15, 15, 5}, {15, 16, 15, 5},
                {15, 15, 16, 5}, {15, 15, 15, 6}, {-1, -1, -1, -1}};
            for (int[] b : bad) {
                due("kind(" + b[0] + ", " + b[1] + ", " + b[2] + ", " + b[3] + ")", x.kind(b[0], b[1], b[2], b[3]), BAD);
            }
            for (int far : FAR) {
                due("kind(" + far + ", 0, 0, 1)", x.kind(far, 0, 0, 1), BAD);
                due("kind(0, " + far + ", 0, 1)", x.kind(0, far, 0, 1), BAD);
                due("kind(0, 0, " + far + ", 1)", x.kind(0, 0, far, 1), BAD);
                due("kind(0, 0, 0, " + far + ")", x.kind(0, 0, 0, far), BAD);
            }
            dueTold("behind them", x, 9 + 4 * FAR.length, 0, 0, 0, 0, 0, 0, 1, 0, 0);
        });
        test("FULL: 5", () -> {
            UnitTurns x = kinds(0, 0, 0, 1, 0, 0, 0, 1, 0, 0, 0, 1, 0, 0, 0, 1);
            due("the fifth", x.kind(0, 0, 0, 1), 4);
            due("a sixth", x.kind(0, 0, 0, 1), FULL);
            due("told(5)", x.told(5), 5);
            due("told(2)", x.told(2), 1);
            x.back();
            due("room again", x.kind(15, 15, 15, 5), 4);
            due("none again", x.kind(15, 15, 15, 5), FULL);
        });
    }

    private static void sets() {
        under("Promise 3: sets");
        test("WIDTH (what 0), RENAMED (1) becomes v: what it was. S", () -> {
            UnitTurns x = new UnitTurns();
            for (int was = 1; was <= 3; was++) {
                for (int v = 1; v <= 3; v++) {
                    x.sets(0, was);
                    due("sets(0, " + v + ")", x.sets(0, v), was);
                    due("told(7)", x.told(7), v);
                    due("told(8)", x.told(8), 0);
                }
            }
            for (int was = 0; was <= 1; was++) {
                for (int v = 0; v <= 1; v++) {
                    x.sets(1, was);
                    due("sets(1, " + v + ")", x.sets(1, v), was);
                    due("told(8)", x.told(8), v);
                    due("told(7)", x.told(7), 3);
                }
            }
            due("told(9)", x.told(9), 5);
        });
        test("BAD", () -> {
            UnitTurns x = new UnitTurns();
            int[][] bad = {{0, 0}, {0, 4}, {0, -1}, {1, -1}, {1, 2}, {1, 3}, {-1, 1}, {2, 1}, {2, 0}, {-1, 0}};
            for (int[] b : bad) {
                due("sets(" + b[0] + ", " + b[1] + ")", x.sets(b[0], b[1]), BAD);
            }
            for (int far : FAR) {
                due("sets(" + far + ", 1)", x.sets(far, 1), BAD);
                due("sets(0, " + far + ")", x.sets(0, far), BAD);
                due("sets(1, " + far + ")", x.sets(1, far), BAD);
            }
            dueTold("behind them", x, 10 + 3 * FAR.length, 0, 0, 0, 0, 0, 0, 1, 0, 0);
        });
    }

    private static void of() {
        under("Promise 4: of");
        test("HOLDS of UNITS 0 to 2 (what 0 .. 2, bits), LATENCY (3), INSTRUCTIONS of it (4)", () -> {
            UnitTurns x = kinds(15, 0, 8, 5, 0, 15, 1, 1);
            int[][] due = {{15, 0, 8, 5, 0}, {0, 15, 1, 1, 0}};
            for (int n = 0; n <= 6; n++) {
                due[1][4] = n;
                for (int k = 0; k < 2; k++) {
                    for (int what = 0; what < 5; what++) {
                        due(n + " of kind 1: of(" + k + ", " + what + ")", x.of(k, what), due[k][what]);
                    }
                }
                x.instruction(1);
            }
        });
        test("BAD", () -> {
            UnitTurns x = kinds(1, 2, 4, 3, 0, 0, 0, 1);
            int[][] bad = {{-1, 0}, {2, 0}, {5, 0}, {0, -1}, {0, 5}, {1, 5}, {-1, -1}, {2, 5}};
            for (int[] b : bad) {
                due("of(" + b[0] + ", " + b[1] + ")", x.of(b[0], b[1]), BAD);
            }
            for (int far : FAR) {
                due("of(" + far + ", 0)", x.of(far, 0), BAD);
                due("of(0, " + far + ")", x.of(0, far), BAD);
            }
            due("told(0)", x.told(0), 8 + 2 * FAR.length);
        });
    }

    private static void states() {
        under("Promise 5: states");
        test("STATES that CAN BE: how many", () -> {
            due("the fewest", new UnitTurns().states(), 1);
            due("the fewest with kinds", kinds(0, 0, 0, 1, 0, 0, 0, 1).states(), 1);
            due("the most", kinds(JUST_150).states(), 150);
            UnitTurns x = kinds(3, 0, 0, 1);
            due("of one kind", x.states(), 3);
            x.kind(0, 3, 0, 1);
            due("another kind is seen", x.states(), 9);
            x.back();
            due("and gone", x.states(), 3);
            block(x, 0, 0);
            due("instructions change nothing", x.states(), 3);
        });
        test("MUCH", () -> {
            UnitTurns x = kinds(JUST_151);
            due("one too many", x.states(), MUCH);
            due("told(3)", x.told(3), 1);
            due("again", x.states(), MUCH);
            due("told(3)", x.told(3), 2);
            UnitTurns all = kinds(TOO_MANY);
            due("far too many", all.states(), MUCH);
            all.back();
            due("a kind back", all.states(), 16);
        });
    }

    private static void state() {
        under("Promise 6: state");
        test("HOLDS of UNITS (what 0 .. 2, bits)", () -> {
            UnitTurns x = kinds(15, 8, 1, 1);
            dueState(x, 0, 0, 0, 0);
            dueState(x, 1, 15, 8, 1);
            dueState(x, 2, 7, 4, 0);
            dueState(x, 3, 3, 2, 0);
            dueState(x, 4, 1, 1, 0);
        });
        test("(what 3: PASS, 4 and k: KIND k; NONE: it can not be read)", () -> {
            UnitTurns x = kinds(1, 0, 0, 1, 0, 1, 0, 1, 0, 0, 1, 1, 0, 0, 0, 1, 1, 1, 1, 1);
            int[] first = {0, 1, 2, 3, 0, 4};
            for (int what = 3; what <= 8; what++) {
                due("of EMPTY: state(0, " + what + ")", x.state(0, what), first[what - 3]);
            }
            int[] full = {0, NONE, NONE, NONE, 4, NONE};
            for (int what = 3; what <= 8; what++) {
                due("of all held: state(4, " + what + ")", x.state(4, what), full[what - 3]);
            }
            due("NONE is not refused", x.told(0), 0);
        });
        test("BAD", () -> {
            for (int k = 0; k <= 5; k++) {
                UnitTurns x = kinds(0, 0, 0, 1, 0, 0, 0, 1, 0, 0, 0, 1, 0, 0, 0, 1, 0, 0, 0, 1);
                for (int n = 5; n > k; n--) {
                    x.back();
                }
                due(k + " kinds: the last letter", x.state(0, 3 + k), 0);
                due(k + " kinds: one too far", x.state(0, 4 + k), BAD);
                due(k + " kinds: state(1, 0)", x.state(1, 0), BAD);
            }
            UnitTurns x = kinds(1, 0, 0, 1);
            int[][] bad = {{-1, 0}, {2, 0}, {0, -1}, {0, 5}, {-1, -1}, {2, 5}, {150, 0}, {149, 0}};
            for (int[] b : bad) {
                due("state(" + b[0] + ", " + b[1] + ")", x.state(b[0], b[1]), BAD);
            }
            for (int far : FAR) {
                due("state(" + far + ", 0)", x.state(far, 0), BAD);
                due("state(0, " + far + ")", x.state(0, far), BAD);
            }
            due("told(0)", x.told(0), 8 + 2 * FAR.length);
            UnitTurns most = kinds(JUST_150);
            due("150: state(149, 8)", most.state(149, 8) >= NONE ? 1 : 0, 1);
            due("150: state(150, 0)", most.state(150, 0), BAD);
            due("150: state(149, 9)", most.state(149, 9), BAD);
        });
        test("MUCH (by any s from 0 on, if there are too many)", () -> {
            UnitTurns x = kinds(TOO_MANY);
            int[] from0 = {0, 1, 149, 150, 151, 255, 256, HIGH};
            for (int s : from0) {
                due("state(" + s + ", 0)", x.state(s, 0), MUCH);
                due("state(" + s + ", 5)", x.state(s, 5), MUCH);
            }
            due("told(3)", x.told(3), 16);
            due("state(-1, 0)", x.state(-1, 0), BAD);
            due("state(LOW, 0)", x.state(LOW, 0), BAD);
            due("state(0, -1)", x.state(0, -1), BAD);
            due("state(0, 6)", x.state(0, 6), BAD);
            due("state(HIGH, 6)", x.state(HIGH, 6), BAD);
            due("told(3) stays", x.told(3), 16);
            due("told(0)", x.told(0), 5);
        });
    }

    private static void classes() {
        under("Promise 7: classes");
        test("CLASSES: how many", () -> {
            due("the fewest", new UnitTurns().classes(), 1);
            UnitTurns x = kinds(8, 0, 0, 1);
            due("16 states, turn 3 held or not", x.classes(), 2);
            x.kind(1, 0, 0, 1);
            due("a kind tells all turns apart", x.classes(), 16);
            x.back();
            due("and no more", x.classes(), 2);
            UnitTurns most = kinds(JUST_150);
            int classes = most.classes();
            int counted = 0;
            for (int s = 0; s < 150; s++) {
                boolean first = true;
                UnitTurns y = kinds(JUST_150);
                for (int t = 0; t < s; t++) {
                    first &= y.alike(s, t) == 0;
                }
                counted += first ? 1 : 0;
            }
            due("of 150 as alike tells", classes, counted);
        });
        test("MUCH", () -> {
            UnitTurns x = kinds(JUST_151);
            due("one too many", x.classes(), MUCH);
            due("told(3)", x.told(3), 1);
            due("few classes, too many states", kinds(TOO_MANY).classes(), MUCH);
        });
    }

    private static void alike() {
        under("Promise 8: alike");
        test("Whether two STATES are ALIKE: 1, 0", () -> {
            due("the only one", new UnitTurns().alike(0, 0), 1);
            UnitTurns x = kinds(8, 0, 0, 1);
            boolean[] held = new boolean[16];
            for (int s = 0; s < 16; s++) {
                held[s] = x.state(s, 0) >= 8;
            }
            for (int s = 0; s < 16; s++) {
                for (int t = 0; t < 16; t++) {
                    due("alike(" + s + ", " + t + ")", x.alike(s, t), held[s] == held[t] ? 1 : 0);
                }
            }
            UnitTurns most = kinds(JUST_150);
            due("the last with itself", most.alike(149, 149), 1);
            due("the first with itself", most.alike(0, 0), 1);
        });
        test("BAD", () -> {
            UnitTurns x = kinds(1, 0, 0, 1);
            int[][] bad = {{-1, 0}, {0, -1}, {2, 0}, {0, 2}, {2, 2}, {-1, -1}, {-1, 2}};
            for (int[] b : bad) {
                due("alike(" + b[0] + ", " + b[1] + ")", x.alike(b[0], b[1]), BAD);
            }
            for (int far : FAR) {
                due("alike(" + far + ", 0)", x.alike(far, 0), BAD);
                due("alike(0, " + far + ")", x.alike(0, far), BAD);
            }
            due("told(0)", x.told(0), 7 + 2 * FAR.length);
            due("150: alike(150, 0)", kinds(JUST_150).alike(150, 0), BAD);
            due("150: alike(0, 150)", kinds(JUST_150).alike(0, 150), BAD);
        });
        test("MUCH (by any s, t from 0 on, likewise)", () -> {
            UnitTurns x = kinds(TOO_MANY);
            int[] from0 = {0, 1, 149, 150, 151, 256, HIGH};
            for (int s : from0) {
                for (int t : from0) {
                    due("alike(" + s + ", " + t + ")", x.alike(s, t), MUCH);
                }
                due("alike(" + s + ", -1)", x.alike(s, -1), BAD);
                due("alike(LOW, " + s + ")", x.alike(LOW, s), BAD);
            }
            due("told(3)", x.told(3), 49);
            due("told(0)", x.told(0), 14);
        });
    }

    private static void instruction() {
        under("Promise 9: instruction");
        test("An INSTRUCTION: its number. S", () -> {
            UnitTurns x = kinds(0, 0, 0, 1);
            for (int i = 0; i < 6; i++) {
                due("instruction(0)", x.instruction(0), i);
                due("told(6)", x.told(6), i + 1);
                due("told(9)", x.told(9), Math.min(5, i + 2));
            }
        });
        test("BAD", () -> {
            for (int k = 0; k <= 5; k++) {
                UnitTurns x = new UnitTurns();
                for (int n = 0; n < k; n++) {
                    x.kind(0, 0, 0, 1);
                }
                due(k + " kinds: instruction(" + k + ")", x.instruction(k), BAD);
                due(k + " kinds: instruction(" + (k - 1) + ")", x.instruction(k - 1), k == 0 ? BAD : 0);
                due(k + " kinds: instruction(-1)", x.instruction(-1), BAD);
                for (int far : FAR) {
                    due("instruction(" + far + ")", x.instruction(far), BAD);
                }
            }
        });
        test("FULL: 6", () -> {
            UnitTurns x = free(5, 1);
            due("the sixth", x.instruction(0), 5);
            due("a seventh", x.instruction(0), FULL);
            due("told(6)", x.told(6), 6);
            due("told(2)", x.told(2), 1);
            x.drops(0);
            due("room again", x.instruction(0), 5);
            due("none again", x.instruction(0), FULL);
            x.back();
            due("room by back", x.instruction(0), 5);
        });
    }

    private static void needs() {
        under("Promise 10: needs");
        test("i needs j: sort 0 no more, 1 TRULY, 2 ANTI: what it was. S", () -> {
            for (int was = 0; was < 3; was++) {
                for (int sort = 0; sort < 3; sort++) {
                    UnitTurns x = free(6, 1);
                    x.needs(5, 0, was);
                    due("needs(5, 0, " + sort + ")", x.needs(5, 0, sort), was);
                    due("about(5, 2)", x.about(5, 2), sort == 1 ? 1 : 0);
                    due("about(5, 3)", x.about(5, 3), sort == 2 ? 1 : 0);
                    due("not the other way", x.about(0, 2) + x.about(0, 3), 0);
                    x.back();
                    due("back: about(5, 2)", x.about(5, 2), was == 1 ? 1 : 0);
                    due("back: about(5, 3)", x.about(5, 3), was == 2 ? 1 : 0);
                }
            }
        });
        test("BAD: alike, too", () -> {
            UnitTurns x = free(2, 1);
            int[][] bad = {{-1, 0, 1}, {0, -1, 1}, {2, 0, 1}, {0, 2, 1}, {0, 1, -1}, {0, 1, 3}, {0, 0, 0}, {0, 0, 1},
                {1, 1, 2}, {2, 2, 1}, {-1, -1, 1}, {5, 0, 1}, {0, 5, 0}};
            for (int[] b : bad) {
                due("needs(" + b[0] + ", " + b[1] + ", " + b[2] + ")", x.needs(b[0], b[1], b[2]), BAD);
            }
            for (int far : FAR) {
                due("needs(" + far + ", 0, 1)", x.needs(far, 0, 1), BAD);
                due("needs(0, " + far + ", 1)", x.needs(0, far, 1), BAD);
                due("needs(1, 0, " + far + ")", x.needs(1, 0, far), BAD);
            }
            dueTold("behind them", x, 13 + 3 * FAR.length, 0, 0, 0, 0, 1, 2, 1, 0, 3);
            due("of one alone", free(1, 1).needs(0, 0, 1), BAD);
        });
        test("NO: there would be a ring", () -> {
            UnitTurns x = free(3, 1);
            x.needs(1, 0, 1);
            due("the other way round", x.needs(0, 1, 1), NO);
            due("by ANTI", x.needs(0, 1, 2), NO);
            due("no more is no ring", x.needs(0, 1, 0), 0);
            due("the same again is no ring", x.needs(1, 0, 1), 1);
            due("another sort is no ring", x.needs(1, 0, 2), 1);
            x.needs(2, 1, 2);
            due("of three by ANTI", x.needs(0, 2, 1), NO);
            x.sets(1, 1);
            due("RENAMED: a ring of NEEDS still", x.needs(0, 2, 1), NO);
            due("RENAMED: by ANTI", x.needs(0, 2, 2), NO);
            due("told(1)", x.told(1), 5);
            x.needs(2, 1, 0);
            due("opened", x.needs(0, 2, 1), 0);
            x.drops(0);
            due("opened by drops", x.needs(1, 0, 1), 0);
            due("and closed", x.needs(0, 1, 1), NO);
        });
    }

    private static void drops() {
        under("Promise 11: drops");
        test("An INSTRUCTION goes (those behind it are one nearer): how many are left. S", () -> {
            for (int gone = 0; gone < 6; gone++) {
                dropsOfRow(gone, 1);
                dropsOfRow(gone, -1);
            }
            UnitTurns x = free(6, 1);
            for (int left = 5; left >= 0; left--) {
                due("drops(0)", x.drops(0), left);
            }
        });
        test("BAD", () -> {
            due("of none", new UnitTurns().drops(0), BAD);
            UnitTurns x = free(2, 1);
            due("drops(2)", x.drops(2), BAD);
            due("drops(-1)", x.drops(-1), BAD);
            due("drops(6)", x.drops(6), BAD);
            for (int far : FAR) {
                due("drops(" + far + ")", x.drops(far), BAD);
            }
            due("told(6)", x.told(6), 2);
            x.drops(1);
            due("drops(1) again", x.drops(1), BAD);
            x.drops(0);
            due("none is left", x.drops(0), BAD);
            due("told(0)", x.told(0), 5 + FAR.length);
            due("of six", free(6, 1).drops(6), BAD);
        });
    }

    /** Six in a row, each needing the one ahead of it (step 1) or behind it (-1): what is left of it. */
    private static void dropsOfRow(int gone, int step) {
        UnitTurns x = block(kinds(0, 0, 0, 1, 0, 0, 0, 2, 0, 0, 0, 3), 0, 1, 2, 0, 1, 2);
        for (int i = 0; i < 6; i++) {
            x.needs(i, i - step, 1 + i % 2);
        }
        due("drops(" + gone + ")", x.drops(gone), 5);
        for (int i = 0; i < 5; i++) {
            int old = i < gone ? i : i + 1;
            boolean needs = old - step >= 0 && old - step < 6 && old - step != gone;
            due("about(" + i + ", 0)", x.about(i, 0), old % 3);
            due("about(" + i + ", 2)", x.about(i, 2), needs && old % 2 == 0 ? 1 : 0);
            due("about(" + i + ", 3)", x.about(i, 3), needs && old % 2 == 1 ? 1 : 0);
            int other = i - step;
            if (needs) {
                due("the same one is needed", x.needs(i, other, 0), 1 + old % 2);
                x.back();
            }
        }
        due("a new one behind them", x.instruction(0), 5);
        due("needs nothing", x.about(5, 2) + x.about(5, 3), 0);
        due("and is needed by none", x.about(5, 1), 1);
        x.back();
        due("back: told(6)", x.told(6), 5);
        x.back();
        due("back: told(6)", x.told(6), 6);
    }

    private static void about() {
        under("Promise 12: about");
        test("KIND (what 0), WAY (1), how many it needs TRULY (2), ANTI (3; RENAMED or not)", () -> {
            UnitTurns x = block(kinds(0, 0, 0, 1, 0, 0, 0, 5), 1, 0, 0, 0, 0, 0);
            for (int j = 1; j < 6; j++) {
                x.needs(0, j, 1);
            }
            int[] truly = {1, 5, 5, 0, 5};
            for (int what = 0; what < 5; what++) {
                due("TRULY all: about(0, " + what + ")", x.about(0, what), what == 4 ? 1 : truly[what]);
            }
            due("about(1, 1)", x.about(1, 1), 6);
            for (int j = 1; j < 6; j++) {
                x.needs(0, j, 2);
            }
            for (int renamed = 0; renamed < 2; renamed++) {
                x.sets(1, renamed);
                due("ANTI all: about(0, 2)", x.about(0, 2), 0);
                due("ANTI all, RENAMED " + renamed + ": about(0, 3)", x.about(0, 3), 5);
                due("ANTI all, RENAMED " + renamed + ": about(1, 1)", x.about(1, 1), renamed == 1 ? 1 : 5);
            }
        });
        test("the least TURN at which it could begin by NEEDS alone (4)", () -> {
            UnitTurns x = block(kinds(15, 15, 15, 5), 0, 0, 0);
            due("units aside", x.about(2, 4), 0);
            x.needs(2, 1, 1);
            due("TRULY", x.about(2, 4), 5);
            x.needs(1, 0, 2);
            due("ANTI", x.about(1, 4), 0);
            x.needs(1, 0, 1);
            due("over two", x.about(2, 4), 10);
            x.sets(0, 3);
            due("width aside", x.about(2, 4), 10);
            UnitTurns y = block(kinds(8, 0, 0, 1), 0, 0);
            y.needs(1, 0, 1);
            due("by LATENCY, not SPAN", y.about(1, 4), 1);
            UnitTurns z = block(kinds(0, 0, 0, 4, 0, 0, 0, 1), 0, 1, 1);
            z.needs(1, 0, 1);
            z.needs(2, 1, 2);
            due("ANTI one that waits", z.about(2, 4), 4);
            z.sets(1, 1);
            due("RENAMED", z.about(2, 4), 0);
        });
        test("BAD", () -> {
            due("of none", new UnitTurns().about(0, 0), BAD);
            UnitTurns x = free(2, 1);
            int[][] bad = {{-1, 0}, {2, 0}, {0, -1}, {0, 5}, {1, 5}, {6, 0}, {-1, -1}, {2, 5}};
            for (int[] b : bad) {
                due("about(" + b[0] + ", " + b[1] + ")", x.about(b[0], b[1]), BAD);
            }
            for (int far : FAR) {
                due("about(" + far + ", 0)", x.about(far, 0), BAD);
                due("about(0, " + far + ")", x.about(0, far), BAD);
            }
            due("told(0)", x.told(0), 8 + 2 * FAR.length);
        });
    }

    private static void bound() {
        under("Promise 13: bound");
        test("BOUND", () -> {
            due("none", new UnitTurns().bound(), 0);
            due("one of the least", free(1, 1).bound(), 1);
            UnitTurns x = free(6, 5);
            for (int i = 1; i < 6; i++) {
                x.needs(i, i - 1, 1);
            }
            due("the most", x.bound(), 30);
            UnitTurns y = block(kinds(15, 15, 15, 1), 0, 0, 0, 0, 0, 0);
            due("the most by a unit", y.bound(), 24);
            y.drops(0);
            due("one less", y.bound(), 20);
            due("it is never refused", y.told(0) + y.told(1) + y.told(2) + y.told(3), 0);
        });
    }

    private static void best() {
        under("Promise 14: best");
        test("LENGTH (i NONE), the TURN of an INSTRUCTION", () -> {
            due("none", new UnitTurns().best(NONE), 0);
            dueTurns("one", free(1, 1), NONE, 1, 0);
            dueTurns("six", free(6, 1), NONE, 6, 0, 1, 2, 3, 4, 5);
            UnitTurns x = free(6, 5);
            for (int i = 1; i < 6; i++) {
                x.needs(i, i - 1, 1);
            }
            dueTurns("the longest", x, NONE, 30, 0, 5, 10, 15, 20, 25);
            x.needs(5, 4, 0);
            dueTurns("changed", x, NONE, 25, 0, 5, 10, 15, 20, 1);
            x.back();
            dueTurns("and back", x, NONE, 30, 0, 5, 10, 15, 20, 25);
        });
        test("BAD", () -> {
            UnitTurns x = new UnitTurns();
            due("best(0) of none", x.best(0), BAD);
            due("best(-2) of none", x.best(-2), BAD);
            for (int n = 1; n <= 6; n++) {
                UnitTurns y = free(n, 1);
                due(n + ": best(" + (n - 1) + ")", y.best(n - 1), n - 1);
                due(n + ": best(" + n + ")", y.best(n), BAD);
                due(n + ": best(-2)", y.best(-2), BAD);
                for (int far : FAR) {
                    due(n + ": best(" + far + ")", y.best(far), BAD);
                }
                due("told(0)", y.told(0), 2 + FAR.length);
            }
        });
    }

    private static void ranked() {
        under("Promise 15: ranked");
        test("BY RANKS by a RULE (0 .. 2): LENGTH (i NONE), the TURN of an INSTRUCTION", () -> {
            UnitTurns x = block(kinds(0, 0, 0, 1, 0, 0, 0, 2, 0, 0, 0, 3), 0, 1, 2);
            dueTurns("rule 0", x, 0, 3, 2, 1, 0);
            dueTurns("rule 1", x, 1, 5, 0, 1, 2);
            x.needs(0, 1, 1);
            dueTurns("rule 2", x, 2, 4, 2, 0, 1);
            for (int rule = 0; rule < 3; rule++) {
                due("none, rule " + rule, new UnitTurns().ranked(rule, NONE), 0);
                dueTurns("one, rule " + rule, free(1, 5), rule, 5, 0);
            }
        });
        test("BAD", () -> {
            for (int n = 0; n <= 6; n++) {
                UnitTurns x = free(n, 1);
                for (int rule = 0; rule < 3; rule++) {
                    due(n + ": ranked(" + rule + ", " + n + ")", x.ranked(rule, n), BAD);
                    due(n + ": ranked(" + rule + ", -2)", x.ranked(rule, -2), BAD);
                }
                due(n + ": ranked(-1, NONE)", x.ranked(-1, NONE), BAD);
                due(n + ": ranked(3, NONE)", x.ranked(3, NONE), BAD);
                due(n + ": ranked(3, 0)", x.ranked(3, 0), BAD);
                for (int far : FAR) {
                    due(n + ": ranked(" + far + ", NONE)", x.ranked(far, NONE), BAD);
                    due(n + ": ranked(0, " + far + ")", x.ranked(0, far), BAD);
                }
                due("told(0)", x.told(0), 9 + 2 * FAR.length);
            }
        });
    }

    private static void plan() {
        under("Promise 16: plan");
        test("(INSTRUCTION 0's first; a number with as many figures as INSTRUCTIONS, 0 in front, too)", () -> {
            UnitTurns x = block(kinds(0, 0, 0, 5, 0, 0, 0, 1), 0, 1, 1);
            due("plan(901): 0 at 9", x.plan(901), 14);
            due("plan(109): 0 at 1", x.plan(109), 10);
            due("plan(19): 0 at 0", x.plan(19), 10);
            due("plan(12)", x.plan(12), 5);
            due("plan(1): two at 0", x.plan(1), NONE);
            UnitTurns six = free(6, 1);
            due("six figures", six.plan(543210), 6);
            due("five figures", six.plan(12345), 6);
            due("the greatest", six.plan(987654), 10);
        });
        test("its LENGTH; NONE: they are none", () -> {
            UnitTurns x = block(kinds(1, 0, 0, 2), 0, 0);
            x.needs(1, 0, 1);
            due("as NEEDS allow", x.plan(2), 4);
            due("too soon", x.plan(1), NONE);
            due("a UNIT twice", x.plan(0), NONE);
            due("the other way round", x.plan(20), NONE);
            due("NONE is not refused", x.told(0), 0);
        });
        test("BAD: below 0, more figures (without INSTRUCTIONS: not 0)", () -> {
            UnitTurns none = new UnitTurns();
            due("none: plan(0)", none.plan(0), 0);
            due("none: plan(1)", none.plan(1), BAD);
            due("none: plan(9)", none.plan(9), BAD);
            due("none: plan(10)", none.plan(10), BAD);
            due("none: plan(-1)", none.plan(-1), BAD);
            int power = 1;
            for (int n = 1; n <= 6; n++) {
                power *= 10;
                UnitTurns x = free(n, 1);
                due(n + ": plan(" + (power - 1) + ")", x.plan(power - 1), n == 1 ? 10 : NONE);
                due(n + ": plan(" + power + ")", x.plan(power), BAD);
                due(n + ": plan(0)", x.plan(0), n == 1 ? 1 : NONE);
                due(n + ": plan(-1)", x.plan(-1), BAD);
                due(n + ": plan(LOW)", x.plan(LOW), BAD);
                due(n + ": plan(HIGH)", x.plan(HIGH), BAD);
                due("told(0)", x.told(0), 4);
            }
        });
    }

    private static void type() {
        under("Promise 17: type");
        test("A byte (0 .. 127) comes behind THE TEXT: how many it has", () -> {
            for (int c = 0; c < 128; c++) {
                UnitTurns x = new UnitTurns();
                due("type(" + c + ")", x.type(c), 1);
                due("type(" + c + ")", x.type(c), 2);
            }
            UnitTurns x = new UnitTurns();
            x.type('w');
            due("behind it", x.type('2'), 2);
            due("behind that", x.type(';'), 3);
            due("in this order", x.reads(), 1);
        });
        test("BAD", () -> {
            UnitTurns x = new UnitTurns();
            due("type(-1)", x.type(-1), BAD);
            due("type(128)", x.type(128), BAD);
            due("type(255)", x.type(255), BAD);
            for (int far : FAR) {
                due("type(" + far + ")", x.type(far), far == 100 ? 1 : BAD);
            }
            due("told(4)", x.told(4), 1);
            due("told(0)", x.told(0), 2 + FAR.length);
        });
        test("FULL: 120", () -> {
            UnitTurns x = new UnitTurns();
            for (int n = 1; n <= 120; n++) {
                due("byte " + n, x.type(32), n);
            }
            due("byte 121", x.type(32), FULL);
            due("told(2)", x.told(2), 1);
            due("told(4)", x.told(4), 120);
            x.clear();
            due("room again", x.type(32), 1);
        });
    }

    private static void clear() {
        under("Promise 18: clear");
        test("THE TEXT is empty: how many it had", () -> {
            UnitTurns x = new UnitTurns();
            due("an empty one", x.clear(), 0);
            for (int n = 1; n <= 120; n++) {
                UnitTurns y = new UnitTurns();
                type(y, ";".repeat(n));
                due(n + " bytes", y.clear(), n);
                due("told(4)", y.told(4), 0);
            }
            type(x, "w2;");
            x.clear();
            due("nothing is left to read", x.reads(), -10);
            type(x, "w3;");
            due("a new one", x.reads(), 1);
            due("told(7)", x.told(7), 3);
            type(x, "w2;");
            x.clear();
            type(x, "w");
            due("no byte of the old one is read", x.reads(), -11);
        });
    }

    private static void reads() {
        under("Promise 19: reads");
        test("ORDERS are done (THE TEXT stays): how many", () -> {
            for (int n = 1; n <= 40; n++) {
                UnitTurns x = new UnitTurns();
                due(n + " orders", reads(x, "w3;".repeat(n)), n);
                due("THE TEXT stays", x.told(4), 3 * n);
                due("told(7)", x.told(7), 3);
                due("and is read again", x.reads(), n);
            }
            UnitTurns x = new UnitTurns();
            due("each sees those ahead of it", reads(x, "k0 0 0 1;i0;i0;n1 0;x0;i0;n0 1;"), 7);
            due("told(6)", x.told(6), 2);
            due("about(0, 2)", x.about(0, 2), 1);
            UnitTurns y = new UnitTurns();
            y.sets(0, 3);
            y.back();
            due("on what is there behind back()", reads(y, "r1;"), 1);
            due("told(7)", y.told(7), 1);
            due("stopped", reads(y, "w3;w4;"), -1001);
            due("on what is there behind a stop", reads(y, "r0;"), 1);
            due("told(7)", y.told(7), 1);
            due("told(8)", y.told(8), 0);
        });
        test("S (one STATE BACK for all)", () -> {
            UnitTurns x = new UnitTurns();
            reads(x, "w3;".repeat(40));
            due("told(9)", x.told(9), 1);
            due("back()", x.back(), 0);
            due("told(7)", x.told(7), 1);
            due("THE TEXT stays by back()", x.told(4), 120);
            for (int n = 1; n <= 7; n++) {
                x.reads();
                due("told(9)", x.told(9), Math.min(n, 5));
            }
        });
        test("-10 less the FAULT", () -> {
            UnitTurns x = new UnitTurns();
            due("the least", x.reads(), -10);
            due("the first byte", reads(x, "?"), -10);
            for (int n = 1; n < 120; n++) {
                due("byte " + n, reads(new UnitTurns(), " ".repeat(n) + "?"), -10 - n);
            }
            due("the last: 120 bytes end too early", reads(x, " ".repeat(119) + "w"), -130);
            dueTold("nothing counts, none is left", x, 0, 0, 0, 0, 120, 0, 0, 1, 0, 0);
        });
        test("-1000 less the number (0 on) of the ORDER that stops all", () -> {
            for (int n = 0; n < 40; n++) {
                UnitTurns x = new UnitTurns();
                due("order " + n, reads(x, "w2;".repeat(n) + "w9;" + "w2;".repeat(39 - n)), -1000 - n);
                dueTold("nothing is done", x, 0, 0, 0, 0, 120, 0, 0, 1, 0, 0);
            }
        });
    }

    private static void back() {
        under("Promise 20: back");
        test("A STATE BACK: how many can be yet", () -> {
            UnitTurns x = new UnitTurns();
            x.sets(0, 2);
            due("the only one", x.back(), 0);
            for (int n = 0; n < 6; n++) {
                x.sets(0, 1 + n % 3);
            }
            for (int left = 4; left >= 0; left--) {
                due("back()", x.back(), left);
                due("told(9)", x.told(9), left);
                due("told(7)", x.told(7), 1 + left % 3);
            }
            due("what is taken back leaves none", x.told(9), 0);
        });
        test("NO: none", () -> {
            UnitTurns x = new UnitTurns();
            due("new", x.back(), NO);
            due("told(1)", x.told(1), 1);
            for (int n = 0; n < 7; n++) {
                x.kind(n, 0, 0, 1);
            }
            for (int n = 0; n < 5; n++) {
                x.back();
            }
            due("behind five", x.back(), NO);
            due("told(1)", x.told(1), 2);
            x.sets(0, 3);
            due("one again", x.back(), 0);
            due("none again", x.back(), NO);
            due("by a refused call none", x.sets(0, 4) + x.back(), BAD + NO);
        });
    }

    private static void told() {
        under("Promise 21: told");
        test("How often refused: BAD (0), NO (1), FULL (2), MUCH (3); bytes of THE TEXT (4), KINDS (5), "
            + "INSTRUCTIONS (6), WIDTH (7), RENAMED (8), STATES BACK (9)", () -> {
            UnitTurns x = new UnitTurns();
            dueTold("the least", x, 0, 0, 0, 0, 0, 0, 0, 1, 0, 0);
            x.back();
            type(x, "k8 0 0 1;k0 8 0 1;k0 0 0 1;k0 0 0 1;k0 0 0 1;i0;i0;i0;i0;i0;i0;w3;r1;");
            x.reads();
            type(x, " ".repeat(120));
            for (int n = 0; n < 4; n++) {
                x.sets(1, 1);
            }
            x.states();
            x.kind(16, 0, 0, 1);
            x.kind(16, 0, 0, 1);
            dueTold("the most", x, 2, 1, 69, 1, 120, 5, 6, 3, 1, 5);
        });
        test("BAD", () -> {
            UnitTurns x = new UnitTurns();
            due("told(-1)", x.told(-1), BAD);
            due("it counts", x.told(0), 1);
            due("told(10)", x.told(10), BAD);
            due("it counts", x.told(0), 2);
            for (int far : FAR) {
                due("told(" + far + ")", x.told(far), BAD);
            }
            due("told(0)", x.told(0), 2 + FAR.length);
        });
    }

    private static void digest() {
        under("Promise 22: digest");
        test("h = 2459; then h = 31 h + v for each v: told(0) to told(9)", () -> {
            UnitTurns x = new UnitTurns();
            due("new", x.digest(), hash(0, 0, 0, 0, 0, 0, 0, 1, 0, 0, 1, 1, 0, 0, 0, 0, 0));
            x.told(-1);
            x.back();
            x.type(59);
            x.sets(0, 3);
            x.sets(1, 1);
            due("told", x.digest(), hash(1, 1, 0, 0, 1, 0, 0, 3, 1, 2, 1, 1, 0, 0, 0, 0, 0));
            due("it counts nothing", x.digest(), hash(1, 1, 0, 0, 1, 0, 0, 3, 1, 2, 1, 1, 0, 0, 0, 0, 0));
        });
        test("KIND by KIND of(0) to of(4); how many STATES, CLASSES (MUCH: -5)", () -> {
            UnitTurns x = kinds(8, 0, 0, 2);
            due("few", x.digest(), hash(0, 0, 0, 0, 0, 1, 0, 1, 0, 1, 8, 0, 0, 2, 0, 16, 2, 0, 0, 0, 0, 0));
            x.kind(0, 8, 0, 3);
            int[] much = {0, 0, 0, 0, 0, 2, 0, 1, 0, 2, 8, 0, 0, 2, 0, 0, 8, 0, 3, 0, -5, -5, 0, 0, 0, 0, 0};
            due("too many", x.digest(), hash(much));
            due("no MUCH is counted by it", x.told(3), 0);
            due("again", x.digest(), hash(much));
        });
        test("INSTRUCTION by INSTRUCTION about(0) to about(4); bound(); best(NONE); "
            + "ranked(0, NONE) to ranked(2, NONE)", () -> {
            UnitTurns x = block(kinds(1, 0, 0, 2, 9, 2, 0, 4), 1, 0, 0, 1);
            int[] due = {0, 0, 0, 0, 0, 2, 4, 1, 0, 5, 1, 0, 0, 2, 2, 9, 2, 0, 4, 2, 12, 12,
                1, 4, 0, 0, 0, 0, 2, 0, 0, 0, 0, 2, 0, 0, 0, 1, 4, 0, 0, 0, 6, 6, 7, 8, 8};
            due("four", x.digest(), hash(due));
            UnitTurns y = free(6, 5);
            for (int i = 1; i < 6; i++) {
                y.needs(i, i - 1, 1);
            }
            int[] most = {0, 0, 0, 0, 0, 1, 6, 1, 0, 5, 0, 0, 0, 5, 6, 1, 1,
                0, 30, 0, 0, 0, 0, 25, 1, 0, 5, 0, 20, 1, 0, 10, 0, 15, 1, 0, 15, 0, 10, 1, 0, 20, 0, 5, 1, 0, 25,
                30, 30, 30, 30, 30};
            due("six", y.digest(), hash(most));
        });
    }
}
