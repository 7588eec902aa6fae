/** Boundary cases that the document names under "What it is" and "Terms", sentence by sentence. */
public final class TermsEdgeTest extends Edges {
    public static void main(String[] args) {
        under("What it is");
        test("An object is used for at most 512 calls after it has been made", TermsEdgeTest::calls512);
        under("Terms");
        ofKinds();
        ofStates();
        ofNeeds();
        ofPlans();
        ofLengths();
        ofBest();
        ofRanks();
        ofTexts();
        ofFaults();
        ofStatesBack();
        ofRefusals();
        end();
    }

    private static void calls512() {
        UnitTurns x = new UnitTurns();
        for (int n = 1; n < 512; n++) {
            due("call " + n + ", told(10)", x.told(10), BAD);
        }
        due("call 512, told(0)", x.told(0), 511);
        UnitTurns y = new UnitTurns();
        for (int n = 1; n < 512; n++) {
            due("call " + n + ", type(59)", y.type(59), n <= 120 ? n : FULL);
        }
        due("call 512, told(2)", y.told(2), 391);
        UnitTurns z = new UnitTurns();
        for (int n = 1; n < 512; n++) {
            due("call " + n + ", sets", z.sets(0, 1 + n % 3), 1 + (n - 1) % 3);
        }
        due("call 512, back()", z.back(), 4);
        UnitTurns none = new UnitTurns();
        for (int n = 1; n < 512; n++) {
            due("call " + n + ", back()", none.back(), NO);
        }
        due("call 512, told(1)", none.told(1), 511);
        UnitTurns much = kinds(TOO_MANY);
        for (int n = 3; n < 512; n++) {
            due("call " + n + ", states()", much.states(), MUCH);
        }
        due("call 512, told(3)", much.told(3), 509);
    }

    // ---- kinds

    private static void ofKinds() {
        test("KINDS 0 .. 4, as they come", () -> {
            UnitTurns x = new UnitTurns();
            for (int k = 0; k < 5; k++) {
                due("of(" + k + ", 3) ahead of it", x.of(k, 3), BAD);
                due("kind " + k, x.kind(k, 15 - k, 2 * k, 5 - k), k);
            }
            for (int k = 0; k < 5; k++) {
                due("of(" + k + ", 0)", x.of(k, 0), k);
                due("of(" + k + ", 1)", x.of(k, 1), 15 - k);
                due("of(" + k + ", 2)", x.of(k, 2), 2 * k);
                due("of(" + k + ", 3)", x.of(k, 3), 5 - k);
            }
            due("of(5, 0)", x.of(5, 0), BAD);
            due("of(-1, 0)", x.of(-1, 0), BAD);
            due("instruction(4)", x.instruction(4), 0);
            due("instruction(5)", x.instruction(5), BAD);
        });
        test("of each UNIT a set of TURNS 0 .. 3 (bits; 0 to 15 each)", TermsEdgeTest::holdsOfEachUnit);
        test("counted from the TURN at which an INSTRUCTION of the KIND begins (TURN 0)", () -> {
            for (int unit = 0; unit < 3; unit++) {
                for (int turn = 0; turn < 4; turn++) {
                    UnitTurns x = unit(unit(new UnitTurns(), unit, 1 << turn, 1), unit, 1, 1);
                    x.sets(0, 2);
                    block(x, 0, 1);
                    for (int second = 0; second < 6; second++) {
                        int length = Math.max(turn + 1, second + 1);
                        due("turn " + turn + " of unit " + unit + " held, the other at " + second,
                            x.plan(second), second == turn ? NONE : length);
                    }
                }
            }
        });
        test("LATENCY (1 .. 5)", () -> {
            for (int latency = 1; latency <= 5; latency++) {
                UnitTurns x = new UnitTurns();
                due("latency " + latency, x.kind(0, 0, 0, latency), 0);
                due("of(0, 3)", x.of(0, 3), latency);
            }
            for (int latency : new int[] {0, 6, -1, 7, LOW, HIGH, 256 + 1, 1 << 31}) {
                UnitTurns x = new UnitTurns();
                due("latency " + latency, x.kind(1, 1, 1, latency), BAD);
                due("no kind of it", x.told(5), 0);
            }
        });
        test("WIDTH (1 .. 3; 1 at first)", () -> {
            UnitTurns x = new UnitTurns();
            due("at first", x.told(7), 1);
            for (int width = 1; width <= 3; width++) {
                due("width " + width, x.sets(0, width) > 0 ? 1 : 0, 1);
                due("told(7)", x.told(7), width);
            }
            for (int width : new int[] {0, 4, -1, LOW, HIGH}) {
                due("width " + width, x.sets(0, width), BAD);
                due("told(7) stays", x.told(7), 3);
            }
        });
    }

    private static void holdsOfEachUnit() {
        for (int unit = 0; unit < 3; unit++) {
            for (int bits = 0; bits < 16; bits++) {
                UnitTurns x = unit(new UnitTurns(), unit, bits, 1);
                for (int other = 0; other < 3; other++) {
                    due("bits " + bits + " of unit " + unit + ": of(0, " + other + ")",
                        x.of(0, other), other == unit ? bits : 0);
                }
            }
            for (int bits : new int[] {-1, 16, 17, 31, -15, LOW, HIGH, 256}) {
                UnitTurns x = unit(new UnitTurns(), unit, bits, 1);
                due("bits " + bits + " of unit " + unit + ": no kind", x.told(5), 0);
                due("bits " + bits + " of unit " + unit + ": refused", x.told(0), 1);
            }
        }
    }

    // ---- states

    private static void ofStates() {
        test("EMPTY: none", () -> {
            dueState(new UnitTurns(), 0, 0, 0, 0);
            dueState(kinds(15, 15, 15, 1), 0, 0, 0, 0);
            dueState(kinds(JUST_150), 0, 0, 0, 0);
        });
        test("it can be read, if no UNIT has a TURN both in the STATE and in its HOLDS; both together then",
            TermsEdgeTest::lettersOfKinds);
        test("PASS (it always can: each TURN becomes one less, TURN 0 goes)", TermsEdgeTest::passes);
        test("(WIDTH aside)", () -> {
            UnitTurns x = kinds(1, 0, 0, 1, 0, 1, 0, 1, 0, 0, 1, 1);
            for (int width = 1; width <= 3; width++) {
                x.sets(0, width);
                due("all three at one turn, width " + width, x.states(), 8);
            }
        });
        test("they are numbered as they are found: EMPTY 0; then, STATE by STATE as they are numbered, "
            + "those that come of it by KINDS, rising, then by PASS, if they are new", () -> {
            UnitTurns x = kinds(2, 0, 0, 1, 0, 2, 0, 1);
            int[][] due = {{0, 0}, {2, 0}, {0, 2}, {2, 2}, {1, 0}, {0, 1}, {1, 1}, {3, 0}, {1, 2}, {2, 1}, {0, 3},
                {3, 1}, {1, 3}, {3, 2}, {2, 3}, {3, 3}};
            due("states()", x.states(), due.length);
            for (int s = 0; s < due.length; s++) {
                dueState(x, s, due[s][0], due[s][1], 0);
            }
            UnitTurns twins = kinds(1, 0, 0, 1, 1, 0, 0, 2, 0, 0, 0, 1);
            due("a kind alike finds nothing new", twins.states(), 2);
            due("state(0, 4)", twins.state(0, 4), 1);
            due("state(0, 5)", twins.state(0, 5), 1);
            due("a kind that holds nothing stays", twins.state(1, 6), 1);
        });
        test("No more than 150 are looked at: are there more, it is MUCH", TermsEdgeTest::states150);
        test("ALIKE are two STATES, if just the same rows of LETTERS can be read, one by one, "
            + "from the one and from the other", TermsEdgeTest::alikeByRows);
        test("CLASSES of ALIKE STATES that CAN BE", () -> {
            due("without kinds", new UnitTurns().classes(), 1);
            due("of kinds that hold nothing", kinds(0, 0, 0, 1, 0, 0, 0, 5).classes(), 1);
            due("all alike but for one turn", kinds(8, 0, 0, 1).classes(), 2);
            due("each its own", kinds(15, 0, 0, 1).classes(), 5);
            due("of 150", kinds(JUST_150).classes() > 0 ? 1 : 0, 1);
        });
    }

    private static void lettersOfKinds() {
        for (int unit = 0; unit < 3; unit++) {
            for (int turn = 0; turn < 4; turn++) {
                int bit = 1 << turn;
                int near = turn == 3 ? 1 : bit << 1;
                int next = (unit + 1) % 3;
                UnitTurns x = unit(unit(unit(new UnitTurns(), unit, bit, 1), unit, near, 1), next, 15, 1);
                String at = "unit " + unit + ", turn " + turn;
                due(at + ": first", x.state(0, 4), 1);
                due(at + ": the same turn again", x.state(1, 4), NONE);
                int both = x.state(1, 5);
                due(at + ": another turn of it too", x.state(both, unit), bit | near);
                int across = x.state(1, 6);
                due(at + ": all turns of another unit too", x.state(across, unit), bit);
                due(at + ": and there", x.state(across, next), 15);
            }
        }
        UnitTurns x = kinds(1, 1, 1, 1, 0, 0, 1, 1, 8, 0, 0, 1);
        due("one unit of three is enough to clash", x.state(1, 5), NONE);
        due("none of the three", x.state(x.state(1, 6), 0), 9);
        due("a kind that holds nothing, on what is full", kinds(15, 15, 15, 1, 0, 0, 0, 1).state(1, 5), 1);
    }

    private static void passes() {
        UnitTurns x = kinds(15, 15, 15, 1);
        int[] bits = {15, 7, 3, 1, 0};
        int s = 1;
        for (int n = 0; n < bits.length; n++) {
            dueState(x, s, bits[n], bits[n], bits[n]);
            s = x.state(s, 3);
        }
        due("of EMPTY", x.state(0, 3), 0);
        for (int unit = 0; unit < 3; unit++) {
            for (int turn = 0; turn < 4; turn++) {
                UnitTurns y = unit(new UnitTurns(), unit, 1 << turn, 1);
                int at = 1;
                for (int left = turn; left > 0; left--) {
                    at = y.state(at, 3);
                    dueState(y, at, unit == 0 ? 1 << left - 1 : 0, unit == 1 ? 1 << left - 1 : 0,
                        unit == 2 ? 1 << left - 1 : 0);
                }
                due("turn 0 of unit " + unit + " goes, to no other unit", y.state(at, 3), 0);
            }
        }
    }

    private static void states150() {
        UnitTurns x = kinds(JUST_150);
        due("150: states()", x.states(), 150);
        due("150: classes()", x.classes() > 0 ? 1 : 0, 1);
        due("150: state(149, 3)", x.state(149, 3) >= 0 ? 1 : 0, 1);
        due("150: alike(149, 149)", x.alike(149, 149), 1);
        due("150: state(150, 3)", x.state(150, 3), BAD);
        due("150: alike(149, 150)", x.alike(149, 150), BAD);
        due("150: told(3)", x.told(3), 0);
        UnitTurns y = kinds(JUST_151);
        due("151: states()", y.states(), MUCH);
        due("151: classes()", y.classes(), MUCH);
        due("151: state(0, 0)", y.state(0, 0), MUCH);
        due("151: state(149, 3)", y.state(149, 3), MUCH);
        due("151: state(150, 3)", y.state(150, 3), MUCH);
        due("151: alike(0, 0)", y.alike(0, 0), MUCH);
        due("151: told(3)", y.told(3), 6);
        y.back();
        due("a kind less: no more too many", y.states() > 0 && y.states() <= 150 ? 1 : 0, 1);
        due("most there can be", kinds(8, 0, 0, 1, 0, 8, 0, 1, 0, 0, 8, 1).states(), MUCH);
        UnitTurns z = kinds(JUST_150);
        z.back();
        int fewer = z.states();
        z.kind(8, 3, 12, 1);
        due("asked, changed, asked again", z.states(), 150);
        z.back();
        due("and back", z.states(), fewer);
    }

    private static void alikeByRows() {
        UnitTurns x = kinds(1, 0, 0, 1, 8, 1, 0, 1, 0, 1, 0, 1);
        int byB = x.state(0, 5);
        int byC = x.state(0, 6);
        due("unlike only behind three passes", x.alike(byB, byC), 0);
        UnitTurns y = kinds(1, 0, 0, 1, 8, 0, 0, 1);
        due("unlike only behind two passes", y.alike(0, y.state(y.state(0, 5), 3)), 0);
        UnitTurns z = kinds(1, 0, 0, 1, 4, 0, 0, 1);
        due("unlike only behind one pass", z.alike(0, z.state(z.state(0, 5), 3)), 0);
        UnitTurns now = kinds(1, 0, 0, 1);
        due("unlike at once", now.alike(0, 1), 0);
        UnitTurns same = kinds(8, 0, 0, 1);
        int s = same.state(same.state(0, 4), 3);
        due("another state", same.state(s, 0), 4);
        due("of which the same rows are read", same.alike(0, s), 1);
        due("either way round", same.alike(s, 0), 1);
        due("each with itself", same.alike(s, s), 1);
        UnitTurns held = kinds(8, 0, 0, 1, 8, 1, 0, 1);
        int long1 = held.state(0, 4);
        int long2 = held.state(0, 5);
        due("a unit that tells nothing more", held.alike(long1, long2), 1);
    }

    // ---- needs

    private static void ofNeeds() {
        test("INSTRUCTIONS 0 .. 5, as they come, each of a KIND", () -> {
            UnitTurns x = kinds(1, 0, 0, 1, 0, 0, 0, 5);
            for (int i = 0; i < 6; i++) {
                due("about(" + i + ", 0) ahead of it", x.about(i, 0), BAD);
                due("instruction", x.instruction(i % 2), i);
                due("about(" + i + ", 0)", x.about(i, 0), i % 2);
            }
            due("a seventh", x.instruction(0), FULL);
            due("about(6, 0)", x.about(6, 0), BAD);
            due("about(-1, 0)", x.about(-1, 0), BAD);
        });
        test("NEEDS of two unlike ones i, j", () -> {
            UnitTurns x = free(6, 1);
            for (int i = 0; i < 6; i++) {
                for (int sort = 0; sort < 3; sort++) {
                    due("needs(" + i + ", " + i + ", " + sort + ")", x.needs(i, i, sort), BAD);
                }
            }
            due("told(0)", x.told(0), 18);
        });
        test("i TRULY needs j (it may begin as many TURNS behind it as LATENCY of j tells, at the least)", () -> {
            for (int latency = 1; latency <= 5; latency++) {
                UnitTurns x = block(kinds(0, 0, 0, latency, 0, 0, 0, 5), 0, 1);
                x.sets(0, 2);
                x.needs(1, 0, 1);
                for (int turn = 0; turn < 10; turn++) {
                    due("latency " + latency + ": plan(" + turn + ")", x.plan(turn), turn < latency ? NONE : turn + 5);
                }
                due("behind, not ahead", x.plan(90), NONE);
                due("the least turn", x.about(1, 4), latency);
            }
        });
        test("i ANTI j (it may not begin ahead of j)", () -> {
            UnitTurns x = free(2, 5);
            x.sets(0, 2);
            x.needs(1, 0, 2);
            due("both at one turn", x.plan(0), 5);
            due("a turn behind", x.plan(1), 6);
            due("a turn ahead", x.plan(10), NONE);
            due("both at 9", x.plan(99), 14);
            due("ahead of 9", x.plan(98), NONE);
            due("the least turn", x.about(1, 4), 0);
        });
        test("never both", () -> {
            UnitTurns x = free(2, 1);
            x.needs(1, 0, 1);
            due("it was TRULY", x.needs(1, 0, 2), 1);
            due("TRULY no more", x.about(1, 2), 0);
            due("ANTI", x.about(1, 3), 1);
            due("it was ANTI", x.needs(1, 0, 1), 2);
            due("TRULY", x.about(1, 2), 1);
            due("ANTI no more", x.about(1, 3), 0);
        });
        test("there is no ring of NEEDS", TermsEdgeTest::rings);
        test("RENAMED (1) or not (0, at first): if it is, ANTI counts for nothing", TermsEdgeTest::renamed);
    }

    private static void rings() {
        for (int n = 2; n <= 6; n++) {
            for (int sorts = 0; sorts < 1 << n; sorts++) {
                UnitTurns x = free(n, 1);
                for (int i = 1; i < n; i++) {
                    due("a row", x.needs(i, i - 1, 1 + (sorts >> i & 1)), 0);
                }
                due("a ring of " + n + ", sorts " + sorts, x.needs(0, n - 1, 1 + (sorts & 1)), NO);
                due("told(1)", x.told(1), 1);
                due("0 needs nothing", x.about(0, 2) + x.about(0, 3), 0);
            }
        }
        UnitTurns x = free(6, 1);
        for (int i = 0; i < 5; i++) {
            due("a row the other way", x.needs(i, i + 1, 2 - i % 2), 0);
        }
        due("a ring of six the other way", x.needs(5, 0, 2), NO);
        due("across is no ring", x.needs(0, 5, 1), 0);
        due("a ring within", x.needs(4, 1, 1), NO);
        due("none is never a ring", x.needs(5, 0, 0), 0);
        due("the row opened", x.needs(2, 3, 0), 2);
        due("a ring by what stands across", x.needs(5, 0, 1), NO);
        due("opened too", x.needs(0, 5, 0), 1);
        due("no ring now", x.needs(5, 0, 1), 0);
    }

    private static void renamed() {
        UnitTurns x = free(2, 4);
        due("at first", x.told(8), 0);
        x.sets(0, 2);
        x.needs(0, 1, 2);
        x.kind(0, 0, 0, 5);
        x.instruction(1);
        x.needs(1, 2, 1);
        int[][] counts = {{4, 0, 1, 5}, {4, 1, 0, 5}, {9, 0, 0, 0}};
        int[][] nothing = {{4, 0, 1, 0}, {4, 1, 0, 5}, {9, 0, 0, 0}};
        for (int round = 0; round < 2; round++) {
            dueNeeds("not renamed", x, counts);
            due("not renamed: plan(50)", x.plan(50), NONE);
            dueTurns("not renamed: best", x, NONE, 9, 5, 5, 0);
            due("sets(1, 1)", x.sets(1, 1), 0);
            dueNeeds("renamed", x, nothing);
            due("renamed: plan(50)", x.plan(50), 9);
            dueTurns("renamed: best", x, NONE, 9, 0, 5, 0);
            dueTurns("renamed: by ranks", x, 1, 9, 0, 5, 0);
            due("sets(1, 0)", x.sets(1, 0), 1);
        }
        due("sets(1, 2)", x.sets(1, 2), BAD);
        due("sets(1, -1)", x.sets(1, -1), BAD);
    }

    private static void dueNeeds(String when, UnitTurns x, int[][] want) {
        for (int i = 0; i < want.length; i++) {
            for (int what = 1; what < 5; what++) {
                due(when + ": about(" + i + ", " + what + ")", x.about(i, what), want[i][what - 1]);
            }
        }
    }

    // ---- plans

    private static void ofPlans() {
        test("A PLAN: a TURN (0 or more) for each INSTRUCTION", () -> {
            UnitTurns x = free(1, 1);
            due("turn 0", x.plan(0), 1);
            due("turn 9", x.plan(9), 10);
            dueTurns("the best begins at 0", x, NONE, 1, 0);
            for (int rule = 0; rule < 3; rule++) {
                dueTurns("so does the row by ranks", x, rule, 1, 0);
            }
            UnitTurns six = free(6, 1);
            six.sets(0, 3);
            due("a turn for each of six", six.plan(998877), 10);
        });
        test("no UNIT is held twice at any TURN", () -> {
            for (int unit = 0; unit < 3; unit++) {
                for (int bits = 0; bits < 16; bits++) {
                    UnitTurns x = block(unit(new UnitTurns(), unit, bits, 5), 0, 0);
                    x.sets(0, 2);
                    for (int turn = 0; turn < 6; turn++) {
                        boolean twice = (bits & bits << turn) != 0;
                        due("bits " + bits + " of unit " + unit + ", at 0 and " + turn, x.plan(turn),
                            twice ? NONE : turn + 5);
                        due("at " + turn + " and 0", x.plan(10 * turn), twice ? NONE : turn + 5);
                    }
                }
            }
        });
        test("no more than WIDTH begin at one TURN", () -> {
            int[] together = {12345, 1234, 1123, 1112, 1111, 111, 999990};
            int[] most = {1, 2, 2, 3, 4, 3, 5};
            int[] last = {5, 4, 3, 2, 1, 1, 9};
            UnitTurns x = free(6, 1);
            for (int width = 1; width <= 3; width++) {
                x.sets(0, width);
                for (int n = 0; n < together.length; n++) {
                    due("width " + width + ": plan(" + together[n] + ")", x.plan(together[n]),
                        most[n] > width ? NONE : last[n] + 1);
                }
                dueTurns("width " + width + ": best", x, NONE, 6 / width);
                dueTurns("width " + width + ": by ranks", x, 1, 6 / width);
            }
        });
    }

    // ---- lengths

    private static void ofLengths() {
        test("SPAN of an INSTRUCTION: LATENCY, or, if more, the greatest TURN of its HOLDS and 1", () -> {
            for (int unit = 0; unit < 3; unit++) {
                for (int latency = 1; latency <= 5; latency++) {
                    for (int bits = 0; bits < 16; bits++) {
                        int held = bits > 7 ? 4 : bits > 3 ? 3 : bits > 1 ? 2 : bits;
                        int span = Math.max(latency, held);
                        UnitTurns x = block(unit(new UnitTurns(), unit, bits, latency), 0);
                        String at = "latency " + latency + ", bits " + bits + " of unit " + unit;
                        due(at + ": about(0, 1)", x.about(0, 1), span);
                        due(at + ": plan(0)", x.plan(0), span);
                        due(at + ": plan(9)", x.plan(9), 9 + span);
                        due(at + ": best(NONE)", x.best(NONE), span);
                        due(at + ": ranked(0, NONE)", x.ranked(0, NONE), span);
                    }
                }
            }
        });
        test("LENGTH: the greatest of TURN and SPAN together (no INSTRUCTIONS: 0)", () -> {
            UnitTurns x = block(kinds(0, 0, 0, 5, 0, 0, 0, 1), 0, 1, 1);
            due("the first ends last", x.plan(12), 5);
            due("the last ends last", x.plan(16), 7);
            due("both as late", x.plan(14), 5);
            x.drops(0);
            x.drops(0);
            due("one", x.best(NONE), 1);
            x.drops(0);
            dueEmpty("all gone", x);
            dueEmpty("new", new UnitTurns());
            dueEmpty("kinds alone", kinds(JUST_150));
        });
        test("WAY of i: SPAN of it, or, if more, the greatest, over all that need i, of "
            + "(LATENCY of i, if TRULY, else 0) and WAY of that one", TermsEdgeTest::ways);
        test("BOUND: the greatest of: WAYS; of each UNIT how many TURNS of it all HOLDS have together; "
            + "how many INSTRUCTIONS by WIDTH (up)", TermsEdgeTest::bounds);
    }

    private static void dueEmpty(String when, UnitTurns x) {
        due(when + ": bound()", x.bound(), 0);
        due(when + ": best(NONE)", x.best(NONE), 0);
        due(when + ": plan(0)", x.plan(0), 0);
        for (int rule = 0; rule < 3; rule++) {
            due(when + ": ranked(" + rule + ", NONE)", x.ranked(rule, NONE), 0);
        }
    }

    private static void ways() {
        UnitTurns x = block(kinds(8, 0, 0, 1, 0, 0, 0, 2, 0, 0, 0, 3, 0, 0, 0, 4), 0, 1, 2, 3);
        due("none needs it: SPAN", x.about(0, 1), 4);
        x.needs(1, 0, 1);
        due("SPAN is more than 1 and 2", x.about(0, 1), 4);
        x.needs(2, 0, 1);
        due("SPAN is as much as 1 and 3", x.about(0, 1), 4);
        x.needs(3, 0, 1);
        due("SPAN is less than 1 and 4", x.about(0, 1), 5);
        x.needs(3, 0, 2);
        due("ANTI: 0 and 4", x.about(0, 1), 4);
        due("the others as they were", x.about(3, 1), 4);
        UnitTurns row = free(6, 5);
        for (int i = 5; i > 0; i--) {
            row.needs(i - 1, i, 1);
        }
        for (int i = 0; i < 6; i++) {
            due("the longest row: about(" + i + ", 1)", row.about(i, 1), 5 + 5 * i);
            due("the longest row: about(" + i + ", 4)", row.about(i, 4), 25 - 5 * i);
        }
        for (int i = 5; i > 0; i--) {
            row.needs(i - 1, i, 2);
        }
        for (int i = 0; i < 6; i++) {
            due("a row of ANTI: about(" + i + ", 1)", row.about(i, 1), 5);
            due("a row of ANTI: about(" + i + ", 4)", row.about(i, 4), 0);
        }
    }

    private static void bounds() {
        for (int width = 1; width <= 3; width++) {
            for (int n = 1; n <= 6; n++) {
                UnitTurns x = free(n, 1);
                x.sets(0, width);
                due(n + " by width " + width, x.bound(), (n + width - 1) / width);
            }
        }
        for (int unit = 0; unit < 3; unit++) {
            UnitTurns x = unit(new UnitTurns(), unit, 15, 5);
            x.sets(0, 3);
            int[] due = {5, 8, 12, 16, 20, 24};
            for (int n = 0; n < 6; n++) {
                x.instruction(0);
                due("unit " + unit + ", all turns, " + (n + 1), x.bound(), due[n]);
            }
        }
        UnitTurns x = block(kinds(3, 3, 3, 1), 0, 0);
        due("units do not count together", x.bound(), 4);
        x.needs(1, 0, 1);
        due("a WAY of 3 is less", x.bound(), 4);
        UnitTurns y = block(kinds(3, 0, 0, 3), 0, 0);
        due("4 TURNS of a UNIT are more than a WAY of 3", y.bound(), 4);
        y.needs(1, 0, 1);
        due("a WAY of 6 is more", y.bound(), 6);
        y.needs(1, 0, 2);
        due("ANTI: a WAY of 3", y.bound(), 4);
    }

    // ---- the best

    private static void ofBest() {
        test("BEST: the PLAN of the least LENGTH; of like ones the first by TURNS of INSTRUCTIONS 0, 1, .. "
            + "(the lesser first)", () -> {
            UnitTurns x = free(6, 1);
            dueTurns("six alike", x, NONE, 6, 0, 1, 2, 3, 4, 5);
            x.sets(0, 2);
            dueTurns("six alike, two a turn", x, NONE, 3, 0, 0, 1, 1, 2, 2);
            x.sets(0, 3);
            dueTurns("six alike, three a turn", x, NONE, 2, 0, 0, 0, 1, 1, 1);
            UnitTurns y = block(kinds(0, 0, 0, 1, 0, 0, 0, 3), 0, 1);
            dueTurns("room at the end: 0 at 0 and 1 at 1 were longer", y, NONE, 3, 1, 0);
            UnitTurns z = block(kinds(0, 0, 0, 5, 0, 0, 0, 1), 0, 1, 1);
            dueTurns("room to spare: the lesser all the same", z, NONE, 5, 0, 1, 2);
            UnitTurns longest = free(6, 5);
            for (int i = 0; i < 5; i++) {
                longest.needs(i, i + 1, 1);
            }
            dueTurns("the longest that can be", longest, NONE, 30, 25, 20, 15, 10, 5, 0);
            UnitTurns full = block(kinds(15, 15, 15, 5), 0, 0, 0, 0, 0, 0);
            dueTurns("one holds all", full, NONE, 25, 0, 4, 8, 12, 16, 20);
            UnitTurns held = block(kinds(9, 0, 0, 1), 0, 0, 0, 0, 0, 0);
            dueTurns("turns between are used", held, NONE, 12, 0, 1, 2, 6, 7, 8);
            UnitTurns needed = free(3, 2);
            needed.needs(2, 1, 1);
            dueTurns("of two of a kind the one that is needed goes first", needed, NONE, 4, 1, 0, 2);
            needed.needs(2, 0, 1);
            dueTurns("both are needed: the lesser number goes first", needed, NONE, 5, 0, 1, 3);
            UnitTurns waits = free(3, 2);
            waits.needs(0, 2, 1);
            dueTurns("of two of a kind the one that waits goes last", waits, NONE, 4, 2, 1, 0);
            UnitTurns mixed = block(kinds(1, 0, 0, 2, 9, 2, 0, 4), 1, 0, 0, 1);
            dueTurns("no unit's turn is left free", mixed, NONE, 6, 0, 1, 4, 2);
            int[] crossed = {6, 9, 10, 2, 13, 13, 0, 4, 11, 9, 2, 1, 6, 9, 11, 4, 0, 10, 0, 2};
            UnitTurns above = block(kinds(crossed), 4, 2, 0, 3, 0, 0);
            above.sets(0, 2);
            due("far above BOUND", above.bound(), 12);
            dueTurns("far above BOUND", above, NONE, 21, 1, 0, 5, 9, 13, 17);
            int[] wide = {15, 14, 0, 1, 3, 8, 11, 1, 13, 10, 9, 5, 1, 13, 10, 1, 14, 15, 12, 5};
            UnitTurns later = block(kinds(wide), 1, 2, 4, 3, 4, 4);
            later.sets(0, 2);
            dueTurns("a later one between", later, NONE, 24, 0, 4, 8, 20, 12, 16);
        });
    }

    // ---- by ranks

    private static void ofRanks() {
        test("each that it needs having begun long enough ahead", () -> {
            for (int latency = 1; latency <= 5; latency++) {
                UnitTurns x = free(2, latency);
                x.needs(0, 1, 1);
                for (int rule = 0; rule < 3; rule++) {
                    dueTurns("latency " + latency, x, rule, 2 * latency, latency, 0);
                }
            }
            UnitTurns row = free(6, 5);
            for (int i = 0; i < 5; i++) {
                row.needs(i, i + 1, 1);
            }
            for (int rule = 0; rule < 3; rule++) {
                dueTurns("the longest row", row, rule, 30, 25, 20, 15, 10, 5, 0);
            }
        });
        test("it begins, if no UNIT is held twice by that and fewer than WIDTH began", () -> {
            UnitTurns x = free(6, 1);
            for (int rule = 0; rule < 3; rule++) {
                x.sets(0, 1);
                dueTurns("one a turn", x, rule, 6, 0, 1, 2, 3, 4, 5);
                x.sets(0, 2);
                dueTurns("two a turn", x, rule, 3, 0, 0, 1, 1, 2, 2);
                x.sets(0, 3);
                dueTurns("three a turn", x, rule, 2, 0, 0, 0, 1, 1, 1);
            }
            for (int unit = 0; unit < 3; unit++) {
                UnitTurns y = block(unit(new UnitTurns(), unit, 9, 1), 0, 0, 0, 0, 0, 0);
                y.sets(0, 3);
                dueTurns("held twice at 3 by 0", y, 1, 12, 0, 1, 2, 6, 7, 8);
                UnitTurns all = block(unit(new UnitTurns(), unit, 15, 1), 0, 0, 0, 0, 0, 0);
                dueTurns("all held", all, 1, 24, 0, 4, 8, 12, 16, 20);
            }
        });
        test("(one that is ANTI another one may begin at the TURN of that, if that began already)", () -> {
            UnitTurns x = free(2, 1);
            x.sets(0, 2);
            x.needs(1, 0, 2);
            dueTurns("that began already", x, 1, 1, 0, 0);
            x.needs(1, 0, 0);
            x.needs(0, 1, 2);
            dueTurns("that has not begun yet", x, 1, 2, 1, 0);
            x.sets(0, 1);
            dueTurns("width 1", x, 1, 2, 1, 0);
            UnitTurns row = free(3, 1);
            row.sets(0, 3);
            row.needs(1, 0, 2);
            row.needs(2, 1, 2);
            dueTurns("a row of three at one turn", row, 1, 1, 0, 0, 0);
            row.sets(0, 2);
            dueTurns("two at one turn", row, 1, 2, 0, 0, 1);
        });
        test("RULE 0: the greater WAY first, of like ones by numbers; 1: by numbers; "
            + "2: the more that need it (either way) first, then by numbers", () -> {
            UnitTurns x = block(kinds(0, 0, 0, 1, 0, 0, 0, 2), 0, 1, 0, 1);
            dueTurns("rule 0", x, 0, 4, 2, 0, 3, 1);
            dueTurns("rule 1", x, 1, 5, 0, 1, 2, 3);
            dueTurns("rule 2, none needed", x, 2, 5, 0, 1, 2, 3);
            x.needs(0, 2, 1);
            x.needs(1, 3, 2);
            dueTurns("rule 2, one TRULY, one ANTI", x, 2, 5, 2, 3, 0, 1);
            x.needs(0, 3, 2);
            dueTurns("rule 2, two need 3", x, 2, 5, 2, 3, 1, 0);
            due("rule 3", x.ranked(3, NONE), BAD);
            due("rule -1", x.ranked(-1, NONE), BAD);
        });
    }

    // ---- texts

    private static void ofTexts() {
        test("THE TEXT (120 bytes at most)", () -> {
            UnitTurns x = new UnitTurns();
            for (int n = 1; n <= 40; n++) {
                type(x, "w1;");
            }
            due("told(4)", x.told(4), 120);
            due("the 121st", x.type(59), FULL);
            due("told(4) stays", x.told(4), 120);
            due("40 orders", x.reads(), 40);
            due("and the 121st was not taken", x.told(4), 120);
        });
        test("k a b c LATENCY (as kind)", () -> {
            UnitTurns x = new UnitTurns();
            due("k15 15 15 5;", reads(x, "k15 15 15 5;k0 0 0 1;k1 2 4 3;"), 3);
            int[] due = {1, 2, 4, 3, 0};
            for (int what = 0; what < 5; what++) {
                due("of(2, " + what + ")", x.of(2, what), due[what]);
            }
            String[] refused = {"k16 0 0 1;", "k0 16 0 1;", "k0 0 16 1;", "k0 0 0 0;", "k0 0 0 6;", "k99 99 99 99;"};
            for (String text : refused) {
                due(text, reads(x, text), -1000);
            }
            due("to five", reads(x, "k0 0 0 1;k0 0 0 1;"), 2);
            due("a sixth", reads(x, "k0 0 0 1;"), -1000);
        });
        test("i KIND (as instruction)", () -> {
            UnitTurns x = kinds(0, 0, 0, 1, 0, 0, 0, 1);
            due("i0;i1;", reads(x, "i0;i1;"), 2);
            due("about(1, 0)", x.about(1, 0), 1);
            due("i2;", reads(x, "i2;"), -1000);
            due("i99;", reads(x, "i99;"), -1000);
            due("four more", reads(x, "i0;i0;i0;i0;"), 4);
            due("a seventh", reads(x, "i0;"), -1000);
        });
        test("n i j (as needs, TRULY), a i j (as needs, ANTI)", () -> {
            UnitTurns x = free(3, 1);
            due("n1 0;a2 0;", reads(x, "n1 0;a2 0;"), 2);
            due("TRULY", x.needs(1, 0, 1), 1);
            due("ANTI", x.needs(2, 0, 2), 2);
            due("n0 0;", reads(x, "n0 0;"), -1000);
            due("a2 2;", reads(x, "a2 2;"), -1000);
            due("n3 0;", reads(x, "n3 0;"), -1000);
            due("a0 3;", reads(x, "a0 3;"), -1000);
            due("a ring", reads(x, "n0 1;"), -1000);
            due("a ring by ANTI", reads(x, "a0 2;"), -1000);
            due("ANTI becomes TRULY", reads(x, "n2 0;a1 0;"), 2);
            due("it was TRULY", x.needs(2, 0, 0), 1);
            due("it was ANTI", x.needs(1, 0, 0), 2);
        });
        test("w WIDTH (as sets); r v (as sets, RENAMED); x i (as drops)", () -> {
            UnitTurns x = free(2, 1);
            due("w3;r1;x1;", reads(x, "w3;r1;x1;"), 3);
            due("told(7)", x.told(7), 3);
            due("told(8)", x.told(8), 1);
            due("told(6)", x.told(6), 1);
            String[] refused = {"w0;", "w4;", "r2;", "r10;", "x1;", "x99;"};
            for (String text : refused) {
                due(text, reads(x, text), -1000);
            }
            due("w1;r0;x0;", reads(x, "w1;r0;x0;"), 3);
            due("none is left", reads(x, "x0;"), -1000);
            dueTold("behind all", x, 0, 0, 0, 0, 3, 1, 0, 1, 0, 5);
        });
    }

    private static void ofFaults() {
        test("Numbers have 1 or 2 figures", () -> {
            UnitTurns x = new UnitTurns();
            due("w3;", reads(x, "w3;"), 1);
            due("w02;", reads(x, "w02;"), 1);
            due("told(7)", x.told(7), 2);
            due("w;", reads(x, "w;"), -11);
            due("w002;", reads(x, "w002;"), -13);
            due("k00 01 10 05;", reads(x, "k00 01 10 05;"), 1);
            due("of(0, 2)", x.of(0, 2), 10);
        });
        test("blanks (32) may stand anywhere but within a number, needed only between two numbers",
            TermsEdgeTest::blanks);
        test("FAULT: the place of the first byte that can not stand there (a third figure, too)",
            TermsEdgeTest::faultPlaces);
        test("the TEXT's length, if it ends too early (an empty one, one of blanks alone, too)", () -> {
            UnitTurns x = new UnitTurns();
            due("an empty one", x.reads(), -10);
            x.type(32);
            due("one blank", x.reads(), -11);
            for (int n = 2; n <= 120; n++) {
                x.type(32);
            }
            due("120 blanks", x.reads(), -130);
            String text = " k 1 02 3 4 ; i 0 ;n 0 1;a 10 0;w 2;r 0;x 5 ;";
            for (int n = 0; n <= text.length(); n++) {
                String start = text.substring(0, n);
                int got = reads(new UnitTurns(), start);
                if (start.trim().endsWith(";")) {
                    due("'" + start + "' has no fault", got >= 0 || got <= -1000 ? 1 : 0, 1);
                } else {
                    due("'" + start + "'", got, -10 - n);
                }
            }
        });
        test("If there is one, nothing is done", () -> {
            UnitTurns x = free(1, 1);
            String ahead = asked(x);
            due("a fault at the last byte", reads(x, "k1 1 1 1;i0;w2;r1;x0;?"), -31);
            x.clear();
            due("as it was", asked(x).equals(ahead) ? 1 : 0, 1);
            due("the last order has no end", reads(x, "w2;w3"), -15);
            due("told(7)", x.told(7), 1);
            due("told(9)", x.told(9), 2);
        });
        test("An ORDER that its call would refuse stops all: nothing is done", () -> {
            UnitTurns x = free(1, 1);
            String ahead = asked(x);
            due("the last of seven", reads(x, "k1 1 1 1;i1;n1 0;w2;r1;x0;w4;"), -1006);
            x.clear();
            due("as it was", asked(x).equals(ahead) ? 1 : 0, 1);
            due("the first that is refused", reads(x, "w3;w0;w2;w4;"), -1001);
            due("told(7)", x.told(7), 1);
            due("a fault behind it comes first", reads(x, "w0;w"), -14);
            due("the last of 40", reads(x, "w1;".repeat(39) + "w0;"), -1039);
        });
    }

    private static void blanks() {
        String[] fine = {"w2;", " w2;", "w 2;", "w2 ;", "w2; ", "   w   2   ;   ", "w2;w2;", "w2; w2;", "w2 ;w 2;"};
        for (String text : fine) {
            UnitTurns x = new UnitTurns();
            due("'" + text + "'", reads(x, text) > 0 ? 1 : 0, 1);
            due("'" + text + "': told(7)", x.told(7), 2);
        }
        UnitTurns x = free(3, 1);
        due("n1 0;", reads(x, "n1 0;"), 1);
        due("n 2   1   ;", reads(x, "n 2   1   ;"), 1);
        due("none between two numbers", reads(x, "n10;"), -13);
        due("within a number: two numbers", reads(x, "w 0 2;"), -14);
        due("within a number: two numbers of four", reads(x, "k1 0 0 0 1;"), -19);
        int[] others = {0, 9, 10, 11, 12, 13, 31, 33, 95, 127};
        for (int c : others) {
            due("byte " + c + " in front", reads(x, (char) c + "w2;"), -10);
            due("byte " + c + " behind the letter", reads(x, "w" + (char) c + "2;"), -11);
            due("byte " + c + " behind the number", reads(x, "w2" + (char) c + ";"), -12);
            due("byte " + c + " behind the order", reads(x, "w2;" + (char) c), -13);
            due("byte " + c + " between numbers", reads(x, "n0" + (char) c + "1;"), -12);
        }
    }

    private static void faultPlaces() {
        for (int c = 0; c < 128; c++) {
            boolean letter = "kinawrx ".indexOf(c) >= 0;
            due("byte " + c + " where an order begins", reads(new UnitTurns(), "" + (char) c), letter ? -11 : -10);
            boolean figure = c >= '0' && c <= '9';
            due("byte " + c + " where a number begins", reads(new UnitTurns(), "i" + (char) c),
                figure || c == ' ' ? -12 : -11);
            due("byte " + c + " behind a figure", reads(new UnitTurns(), "n1" + (char) c),
                figure || c == ' ' ? -13 : -12);
            due("byte " + c + " behind two figures", reads(new UnitTurns(), "n12" + (char) c), c == ' ' ? -14 : -13);
            due("byte " + c + " behind the last number", reads(new UnitTurns(), "x12" + (char) c),
                c == ' ' ? -14 : c == ';' ? -1000 : -13);
        }
        String[] letters = {"k", "i", "n", "a", "w", "r", "x"};
        int[] numbers = {4, 1, 2, 2, 1, 1, 1};
        for (int n = 0; n < letters.length; n++) {
            String text = letters[n];
            for (int given = 0; given < numbers[n]; given++) {
                due(text + "; with " + given, reads(new UnitTurns(), text + ";"), -10 - text.length());
                text += " 1";
            }
            due(text + ": no end", reads(new UnitTurns(), text), -10 - text.length());
            due(text + " 1: one too many", reads(new UnitTurns(), text + " 1;"), -11 - text.length());
            due(text + "12: a third figure", reads(new UnitTurns(), text + "12;"), -11 - text.length());
            due(text + "w: a letter for the end", reads(new UnitTurns(), text + "w1;"), -10 - text.length());
            due(text + ";;: an end too many", reads(new UnitTurns(), text + ";;"), -11 - text.length());
        }
        due("the 120th byte", reads(new UnitTurns(), " ".repeat(119) + "?"), -129);
        due("the first of two", reads(new UnitTurns(), "w?;?"), -11);
    }

    // ---- states back

    private static void ofStatesBack() {
        test("each call told S, if it is not refused, leaves one", () -> {
            UnitTurns x = new UnitTurns();
            x.kind(0, 0, 0, 1);
            due("kind", x.told(9), 1);
            x.sets(0, 2);
            due("sets", x.told(9), 2);
            x.instruction(0);
            due("instruction", x.told(9), 3);
            x.instruction(0);
            x.back();
            x.back();
            x.instruction(0);
            due("instruction again", x.told(9), 3);
            x.instruction(0);
            x.needs(1, 0, 1);
            due("needs", x.told(9), 5);
            x.back();
            x.drops(1);
            due("drops", x.told(9), 5);
            x.back();
            due("reads", reads(x, "w1;"), 1);
            due("reads", x.told(9), 5);
            x.back();
            refusedLeaveNone(x);
            questionsLeaveNone(x);
        });
        test("also if nothing changes by it", () -> {
            UnitTurns x = new UnitTurns();
            due("sets(0, 1)", x.sets(0, 1), 1);
            due("told(9)", x.told(9), 1);
            due("sets(1, 0)", x.sets(1, 0), 0);
            due("told(9)", x.told(9), 2);
            due("w1;r0;", reads(x, "w1;r0;"), 2);
            due("told(9)", x.told(9), 3);
            UnitTurns y = free(2, 1);
            due("needs(1, 0, 0)", y.needs(1, 0, 0), 0);
            due("told(9)", y.told(9), 4);
            due("back()", y.back(), 3);
        });
        test("to go back to (KINDS, THE BLOCK, WIDTH, RENAMED)", () -> {
            UnitTurns x = kinds(1, 2, 3, 4);
            reads(x, "k5 6 7 5;i1;i0;n1 0;w2;r1;");
            x.told(-1);
            due("back()", x.back(), 1);
            dueTold("all but THE TEXT and how often", x, 1, 0, 0, 0, 26, 1, 0, 1, 0, 1);
            int[] due = {1, 2, 3, 4, 0};
            for (int what = 0; what < 5; what++) {
                due("of(0, " + what + ")", x.of(0, what), due[what]);
            }
            x.back();
            due("new again", x.told(5), 0);
        });
        test("5 at most, older ones lost", TermsEdgeTest::fiveBack);
    }

    private static void refusedLeaveNone(UnitTurns x) {
        int left = x.told(9);
        x.kind(16, 0, 0, 1);
        x.sets(0, 4);
        x.instruction(9);
        x.needs(0, 0, 1);
        x.drops(9);
        reads(x, "w1");
        reads(x, "w4;");
        due("refused calls leave none", x.told(9), left);
        due("they were refused", x.told(0), 5);
    }

    private static void questionsLeaveNone(UnitTurns x) {
        int left = x.told(9);
        x.of(0, 0);
        x.states();
        x.state(0, 0);
        x.classes();
        x.alike(0, 0);
        x.about(0, 0);
        x.bound();
        x.best(NONE);
        x.ranked(0, NONE);
        x.plan(0);
        x.clear();
        x.type(32);
        x.digest();
        due("questions and bytes leave none", x.told(9), left);
        due("none of them was refused", x.told(0), 5);
    }

    private static void fiveBack() {
        for (int calls = 0; calls <= 13; calls++) {
            UnitTurns x = new UnitTurns();
            int[] widths = new int[calls + 1];
            widths[0] = 1;
            for (int n = 1; n <= calls; n++) {
                widths[n] = 1 + (n * n + n / 3) % 3;
                x.sets(0, widths[n]);
            }
            int can = Math.min(calls, 5);
            due(calls + " calls: told(9)", x.told(9), can);
            for (int n = 1; n <= can; n++) {
                due(calls + " calls, back " + n, x.back(), can - n);
                due(calls + " calls, width behind back " + n, x.told(7), widths[calls - n]);
            }
            due(calls + " calls: none is left", x.back(), NO);
            due(calls + " calls: told(1)", x.told(1), 1);
            due(calls + " calls: the width stays", x.told(7), widths[calls - can]);
        }
        UnitTurns x = new UnitTurns();
        for (int n = 0; n < 20; n++) {
            x.sets(0, 1);
            x.sets(0, 2);
            x.sets(0, 3);
            due("the ring turns: back()", x.back(), Math.min(2 * n + 2, n == 0 ? 2 : 4));
            due("width", x.told(7), 2);
        }
    }

    // ---- refusals

    private static void ofRefusals() {
        test("Refused (a question, too), changing nothing but how often", TermsEdgeTest::refusedChangeNothing);
        test("the first of: BAD -2 a number is not as told; NO -3 as told; FULL -4 as told; MUCH -5", () -> {
            due("BAD", BAD, -2);
            due("NO", NO, -3);
            due("FULL", FULL, -4);
            due("MUCH", MUCH, -5);
            due("NONE", NONE, -1);
            UnitTurns x = block(kinds(8, 0, 0, 1, 0, 8, 0, 1, 0, 0, 0, 1, 0, 0, 0, 1, 0, 0, 0, 1), 0, 0, 0, 0, 0, 0);
            due("kind: BAD ahead of FULL", x.kind(16, 0, 0, 1), BAD);
            due("kind: FULL", x.kind(15, 0, 0, 1), FULL);
            due("instruction: BAD ahead of FULL", x.instruction(5), BAD);
            due("instruction: FULL", x.instruction(4), FULL);
            x.needs(1, 0, 1);
            due("needs: BAD ahead of NO", x.needs(0, 1, 3), BAD);
            due("needs: alike is BAD, not a ring", x.needs(0, 0, 1), BAD);
            due("needs: NO", x.needs(0, 1, 1), NO);
            due("state: BAD ahead of MUCH", x.state(0, 9), BAD);
            due("state: BAD ahead of MUCH", x.state(-1, 0), BAD);
            due("state: MUCH", x.state(0, 8), MUCH);
            due("alike: BAD ahead of MUCH", x.alike(0, -1), BAD);
            due("alike: BAD ahead of MUCH", x.alike(-1, 0), BAD);
            due("alike: MUCH", x.alike(0, 0), MUCH);
            for (int n = 0; n < 120; n++) {
                x.type(65);
            }
            due("type: BAD ahead of FULL", x.type(-1), BAD);
            due("type: BAD ahead of FULL", x.type(128), BAD);
            due("type: FULL", x.type(0), FULL);
            dueTold("each by its own", x, 10, 1, 3, 2, 120, 5, 6, 1, 0, 5);
        });
        test("By what THE TEXT tells, by a FAULT of it nothing counts", () -> {
            UnitTurns x = block(kinds(0, 0, 0, 1), 0, 0, 0, 0, 0, 0);
            String[] texts = {"", "?", "w", "w4;", "i9;", "i0;", "n0 0;", "n1 0;n0 1;", "x6;",
                "k0 0 0 1;k0 0 0 1;k0 0 0 1;k0 0 0 1;k0 0 0 1;"};
            int[] due = {-10, -10, -11, -1000, -1000, -1000, -1000, -1001, -1000, -1004};
            for (int n = 0; n < texts.length; n++) {
                due("'" + texts[n] + "'", reads(x, texts[n]), due[n]);
            }
            x.clear();
            dueTold("nothing counts", x, 0, 0, 0, 0, 0, 1, 6, 1, 0, 5);
        });
    }

    private static UnitTurns rich() {
        UnitTurns x = block(kinds(8, 0, 1, 2, 0, 8, 0, 5, 0, 3, 0, 1, 2, 0, 0, 3, 0, 0, 0, 4), 0, 1, 2, 3, 4, 1);
        x.sets(0, 2);
        x.needs(1, 0, 1);
        x.needs(2, 1, 2);
        x.needs(5, 2, 1);
        x.needs(3, 5, 2);
        type(x, "n4 3;w3;");
        return x;
    }

    private static void refusedChangeNothing() {
        String due = spent(rich());
        int[][] calls = {{0, BAD}, {1, FULL}, {2, BAD}, {3, BAD}, {4, BAD}, {5, MUCH}, {6, MUCH}, {7, BAD}, {8, MUCH},
            {9, MUCH}, {10, BAD}, {11, BAD}, {12, FULL}, {13, BAD}, {14, NO}, {15, BAD}, {16, BAD}, {17, BAD},
            {18, BAD}, {19, BAD}, {20, BAD}, {21, BAD}, {22, BAD}};
        UnitTurns all = rich();
        for (int[] call : calls) {
            UnitTurns x = rich();
            due("refused call " + call[0], refusedCall(x, call[0]), call[1]);
            for (int code = 0; code < 4; code++) {
                due("behind call " + call[0] + ": told(" + code + ")", x.told(code), -2 - call[1] == code ? 1 : 0);
            }
            due("behind call " + call[0] + ": all as it was", spent(x).equals(due) ? 1 : 0, 1);
            refusedCall(all, call[0]);
        }
        due("behind all: told(0)", all.told(0), 16);
        due("behind all: told(1)", all.told(1), 1);
        due("behind all: told(2)", all.told(2), 2);
        due("behind all: told(3)", all.told(3), 4);
        due("behind all: all as it was", spent(all).equals(due) ? 1 : 0, 1);
    }

    private static int refusedCall(UnitTurns x, int call) {
        switch (call) {
            case 0: return x.kind(0, 0, 16, 1);
            case 1: return x.kind(1, 1, 1, 1);
            case 2: return x.sets(0, 0);
            case 3: return x.sets(1, 2);
            case 4: return x.of(5, 0);
            case 5: return x.states();
            case 6: return x.state(0, 0);
            case 7: return x.state(0, 9);
            case 8: return x.classes();
            case 9: return x.alike(0, 1);
            case 10: return x.alike(0, -1);
            case 11: return x.instruction(5);
            case 12: return x.instruction(4);
            case 13: return x.needs(0, 1, 3);
            case 14: return x.needs(0, 3, 2);
            case 15: return x.drops(6);
            case 16: return x.about(6, 0);
            case 17: return x.best(6);
            case 18: return x.ranked(0, 6);
            case 19: return x.ranked(3, 0);
            case 20: return x.plan(1000000);
            case 21: return x.type(128);
            default: return x.told(10);
        }
    }
}
