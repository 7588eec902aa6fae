import java.util.ArrayList;
import java.util.List;

/**
 * Every call with every row of boundary numbers, on objects that are new, small, full, and with too
 * many states, beside the plain model: the answer, and all that told() and digest() tell behind it.
 */
public final class SweepTest {
    /** Each limit of the document, one below and one above it, and the ends of int. */
    private static final int[] WIDE = {Integer.MIN_VALUE, -2, -1, 0, 1, 2, 3, 4, 5, 6, 7, 8, 9, 10, 15, 16, 119, 120,
        127, 128, 149, 150, 151, 999, 1000, 9999, 10000, 99999, 100000, 999999, 1000000, Integer.MAX_VALUE};
    private static final int[] NEAR = {Integer.MIN_VALUE, -2, -1, 0, 1, 2, 3, 4, 5, 6, 8, 9, Integer.MAX_VALUE};
    private static final int[] FEW = {-1, 0, 1, 5, 6, 15, 16};
    /** Orders that make the objects; a text more that stays, behind '|'. */
    private static final String[] SETUPS = {
        "",
        "k0 0 0 1;",
        "k1 0 0 2;k9 2 0 4;i1;",
        "k1 0 0 2;k9 2 0 4;i1;i0;n1 0;|w3;r1;",
        "k15 15 15 5;k0 0 0 1;i0;i1;i0;n2 1;a1 0;w2;|x0;x0;x0;",
        "k8 0 0 1;k0 8 0 3;i0;i1;i1;i0;n3 0;a2 3;|w",
        "k8 0 8 1;k2 1 11 1;k4 0 0 1;k15 1 2 1;k8 3 12 1;i0;i4;i3;i2;i1;i0;a5 0;n4 5;w3;",
        "k4 8 6 2;k2 0 1 5;k4 0 8 1;k2 13 0 1;i3;i3;i2;i1;i0;i0;a0 1;n1 2;a2 3;r1;",
    };
    private static int calls = 0;
    private static int wrong = 0;

    private UnitTurns real;
    private Model model;
    private final String setup;

    private SweepTest(String setup) {
        this.setup = setup;
        renew();
    }

    public static void main(String[] args) {
        for (String setup : SETUPS) {
            new SweepTest(setup).sweep();
        }
        System.out.println(calls + " calls, " + wrong + " wrong");
        if (wrong != 0) {
            System.exit(1);
        }
    }

    private void renew() {
        real = new UnitTurns();
        model = new Model();
        String[] texts = setup.split("\\|", -1);
        for (String text : texts) {
            real.clear();
            model.clear();
            for (int n = 0; n < text.length(); n++) {
                real.type(text.charAt(n));
                model.type(text.charAt(n));
            }
            if (text == texts[0]) {
                real.reads();
                model.reads();
            }
        }
    }

    private void sweep() {
        for (String call : new String[] {"states", "classes", "bound", "clear", "reads", "back", "digest"}) {
            renew();
            for (int n = 0; n < 7; n++) {
                check(call);
            }
        }
        for (String call : new String[] {"instruction", "drops", "best", "plan", "type", "told"}) {
            for (int a : WIDE) {
                anew(call, a);
            }
        }
        for (String call : new String[] {"sets", "of", "state", "alike", "about", "ranked"}) {
            for (int a : call.equals("state") || call.equals("alike") ? WIDE : NEAR) {
                for (int b : call.equals("alike") ? WIDE : NEAR) {
                    anew(call, a, b);
                }
            }
        }
        for (int a : NEAR) {
            for (int b : NEAR) {
                for (int c = -1; c <= 3; c++) {
                    anew("needs", a, b, c);
                }
            }
        }
        for (int a : FEW) {
            for (int b : FEW) {
                for (int c : FEW) {
                    for (int d : FEW) {
                        anew("kind", a, b, c, d);
                    }
                }
            }
        }
    }

    /** The call on the object as it was set up. */
    private void anew(String call, int... v) {
        renew();
        check(call, v);
    }

    private void check(String call, int... v) {
        calls++;
        long got = ofReal(call, v);
        long due = ofModel(call, v);
        boolean same = got == due;
        for (int what = 0; what < 10; what++) {
            same &= real.told(what) == model.told(what);
        }
        same &= real.digest() == model.digest();
        if (!same) {
            wrong++;
            List<Integer> list = new ArrayList<>();
            for (int n : v) {
                list.add(n);
            }
            System.out.println("'" + setup + "': " + call + list + " answered " + got + ", due is " + due
                + (got == due ? ", but it left something else" : ""));
        }
    }

    private long ofReal(String call, int[] v) {
        switch (call) {
            case "kind": return real.kind(v[0], v[1], v[2], v[3]);
            case "sets": return real.sets(v[0], v[1]);
            case "of": return real.of(v[0], v[1]);
            case "states": return real.states();
            case "state": return real.state(v[0], v[1]);
            case "classes": return real.classes();
            case "alike": return real.alike(v[0], v[1]);
            case "instruction": return real.instruction(v[0]);
            case "needs": return real.needs(v[0], v[1], v[2]);
            case "drops": return real.drops(v[0]);
            case "about": return real.about(v[0], v[1]);
            case "bound": return real.bound();
            case "best": return real.best(v[0]);
            case "ranked": return real.ranked(v[0], v[1]);
            case "plan": return real.plan(v[0]);
            case "type": return real.type(v[0]);
            case "clear": return real.clear();
            case "reads": return real.reads();
            case "back": return real.back();
            case "told": return real.told(v[0]);
            default: return real.digest();
        }
    }

    private long ofModel(String call, int[] v) {
        switch (call) {
            case "kind": return model.kind(v[0], v[1], v[2], v[3]);
            case "sets": return model.sets(v[0], v[1]);
            case "of": return model.of(v[0], v[1]);
            case "states": return model.states();
            case "state": return model.state(v[0], v[1]);
            case "classes": return model.classes();
            case "alike": return model.alike(v[0], v[1]);
            case "instruction": return model.instruction(v[0]);
            case "needs": return model.needs(v[0], v[1], v[2]);
            case "drops": return model.drops(v[0]);
            case "about": return model.about(v[0], v[1]);
            case "bound": return model.bound();
            case "best": return model.best(v[0]);
            case "ranked": return model.ranked(v[0], v[1]);
            case "plan": return model.plan(v[0]);
            case "type": return model.type(v[0]);
            case "clear": return model.clear();
            case "reads": return model.reads();
            case "back": return model.back();
            case "told": return model.told(v[0]);
            default: return model.digest();
        }
    }
}
