import java.util.Random;

/** Long runs of calls, made from a fixed seed, each answer beside that of the plain model. */
public final class ModelTest {
    private static final int RUNS = 1500;
    private static final int CALLS = 120;
    private static int wrong = 0;

    private final Random random;
    private final UnitTurns real = new UnitTurns();
    private final Model model = new Model();
    private final StringBuilder log = new StringBuilder();
    /** How full of holds the kinds of this run are: the scarcer, the fewer states there are. */
    private final int scarce;
    private boolean failed = false;

    private ModelTest(long seed) {
        random = new Random(seed);
        scarce = random.nextInt(4);
    }

    public static void main(String[] args) {
        for (int run = 0; run < RUNS && wrong < 5; run++) {
            new ModelTest(run).run(run);
        }
        System.out.println(wrong == 0 ? "all answers are as the model's" : wrong + " runs are not as the model's");
        if (wrong != 0) {
            System.exit(1);
        }
    }

    private void run(int number) {
        for (int n = 0; n < CALLS && !failed; n++) {
            call();
        }
        if (!failed) {
            check("digest()", real.digest(), model.digest());
        }
        if (failed) {
            wrong++;
            System.out.println("run " + number + ":\n" + log);
        }
    }

    private void check(String call, long got, long due) {
        log.append("  ").append(call).append(" = ").append(got).append('\n');
        if (got != due) {
            failed = true;
            log.append("  due is ").append(due).append('\n');
        }
    }

    private int upTo(int n) {
        return random.nextInt(n + 1);
    }

    /** Mostly from low to high; now and then just outside, or far. */
    private int about(int low, int high) {
        int c = random.nextInt(40);
        if (c == 0) {
            return low - 1;
        }
        if (c == 1) {
            return high + 1;
        }
        if (c == 2) {
            int[] far = {Integer.MIN_VALUE, Integer.MAX_VALUE, -2, 100, 1 << 30};
            return far[random.nextInt(far.length)];
        }
        return high < low ? low : low + upTo(high - low);
    }

    private int hold() {
        int bits = about(0, 15);
        for (int n = 0; n < scarce && bits >= 0 && bits <= 15; n++) {
            bits &= upTo(15);
        }
        return bits;
    }

    private void call() {
        int kinds = model.now.kinds.size();
        int block = model.now.block.size();
        int i = about(0, block - 1);
        int j = about(0, block - 1);
        int c = random.nextInt(29);
        switch (c) {
            case 0: case 1: { int a = hold(), b = hold(), d = hold(), l = about(1, 5);
                check("kind(" + a + ", " + b + ", " + d + ", " + l + ")", real.kind(a, b, d, l), model.kind(a, b, d, l)); return; }
            case 2: { int what = about(0, 1), v = what == 0 ? about(1, 3) : about(0, 1);
                check("sets(" + what + ", " + v + ")", real.sets(what, v), model.sets(what, v)); return; }
            case 3: { int k = about(0, kinds - 1), what = about(0, 4);
                check("of(" + k + ", " + what + ")", real.of(k, what), model.of(k, what)); return; }
            case 4: check("states()", real.states(), model.states()); return;
            case 5: { int s = about(0, random.nextBoolean() ? 5 : 149), what = about(0, 3 + kinds);
                check("state(" + s + ", " + what + ")", real.state(s, what), model.state(s, what)); return; }
            case 6: check("classes()", real.classes(), model.classes()); return;
            case 7: { int s = about(0, upTo(12)), t = about(0, upTo(60));
                check("alike(" + s + ", " + t + ")", real.alike(s, t), model.alike(s, t)); return; }
            case 8: case 9: case 10: case 11: { int k = about(0, kinds - 1);
                check("instruction(" + k + ")", real.instruction(k), model.instruction(k)); return; }
            case 12: case 13: case 14: { int sort = about(0, 2);
                check("needs(" + i + ", " + j + ", " + sort + ")", real.needs(i, j, sort), model.needs(i, j, sort)); return; }
            case 15: if (random.nextInt(3) == 0) {
                check("drops(" + i + ")", real.drops(i), model.drops(i)); } return;
            case 16: { int what = about(0, 4);
                check("about(" + i + ", " + what + ")", real.about(i, what), model.about(i, what)); return; }
            case 17: check("bound()", real.bound(), model.bound()); return;
            case 18: case 19: bests(); return;
            case 20: rankeds(); return;
            case 21: case 22: plans(); return;
            case 23: case 24: texts(); return;
            case 25: if (random.nextInt(2) == 0) { check("back()", real.back(), model.back()); } return;
            case 26: { int what = about(0, 9);
                check("told(" + what + ")", real.told(what), model.told(what)); return; }
            case 27: check("digest()", real.digest(), model.digest()); return;
            default: if (random.nextInt(3) == 0) { check("clear()", real.clear(), model.clear()); } return;
        }
    }

    private void bests() {
        int n = model.now.block.size();
        int i = about(-1, n - 1);
        check("best(" + i + ")", real.best(i), model.best(i));
        int[] turns = model.bestTurns();
        for (int k = 0; k < n; k++) {
            check("best(" + k + ")", real.best(k), turns[k]);
        }
    }

    private void rankeds() {
        int n = model.now.block.size();
        int rule = about(0, 2);
        int i = about(-1, n - 1);
        check("ranked(" + rule + ", " + i + ")", real.ranked(rule, i), model.ranked(rule, i));
        for (int r = 0; r < 3; r++) {
            for (int k = -1; k < n; k++) {
                check("ranked(" + r + ", " + k + ")", real.ranked(r, k), model.ranked(r, k));
            }
        }
    }

    /** Turns at random are seldom a plan: so, too, the best and the ranked ones, one of them moved. */
    private void plans() {
        int n = model.now.block.size();
        int c = random.nextInt(4);
        int number = about(0, (int) Math.pow(10, n) - 1);
        if (c > 0) {
            int[] turns = c == 1 ? model.bestTurns() : model.rankedTurns(upTo(2));
            if (n > 0 && random.nextBoolean()) {
                turns[random.nextInt(n)] = upTo(9);
            }
            number = 0;
            for (int t : turns) {
                number = number * 10 + Math.min(t, 9);
            }
        }
        check("plan(" + number + ")", real.plan(number), model.plan(number));
    }

    private void texts() {
        if (random.nextInt(3) > 0) {
            check("clear()", real.clear(), model.clear());
        }
        StringBuilder s = new StringBuilder();
        int orders = upTo(5);
        for (int n = 0; n < orders; n++) {
            order(s);
        }
        int c = random.nextInt(6);
        if (c == 0 && s.length() > 0) {
            s.setCharAt(random.nextInt(s.length()), (char) upTo(127));
        } else if (c == 1 && s.length() > 0) {
            s.deleteCharAt(random.nextInt(s.length()));
        } else if (c == 2) {
            s.insert(random.nextInt(s.length() + 1), "0 ;k9n".charAt(upTo(5)));
        }
        for (int n = 0; n < s.length(); n++) {
            check("type(" + (int) s.charAt(n) + ")", real.type(s.charAt(n)), model.type(s.charAt(n)));
        }
        int odd = about(0, 127);
        if (odd < 0 || odd > 127) {
            check("type(" + odd + ")", real.type(odd), model.type(odd));
        }
        check("reads()", real.reads(), model.reads());
        if (random.nextInt(6) == 0) {
            check("reads()", real.reads(), model.reads());
        }
    }

    private void order(StringBuilder s) {
        char letter = "kiiinnaawrx".charAt(upTo(10));
        int[] values;
        int kinds = model.now.kinds.size();
        int last = Math.max(0, model.now.block.size());
        switch (letter) {
            case 'k': values = new int[] {hold(), hold(), hold(), about(1, 5)}; break;
            case 'i': values = new int[] {about(0, kinds - 1)}; break;
            case 'w': values = new int[] {about(1, 3)}; break;
            case 'r': values = new int[] {upTo(1)}; break;
            case 'x': values = new int[] {about(0, last)}; break;
            default: values = new int[] {upTo(last), upTo(last)}; break;
        }
        blanks(s);
        s.append(letter);
        for (int n = 0; n < values.length; n++) {
            if (n > 0) {
                s.append(' ');
            }
            blanks(s);
            int v = Math.floorMod(values[n], 100);
            if (v < 10 && random.nextInt(5) == 0) {
                s.append('0');
            }
            s.append(v);
        }
        blanks(s);
        s.append(';');
        blanks(s);
    }

    private void blanks(StringBuilder s) {
        while (random.nextInt(5) == 0) {
            s.append(' ');
        }
    }
}
