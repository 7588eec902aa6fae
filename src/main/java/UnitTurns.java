import java.util.Arrays;

/** Instructions put in turns on units; ../shared/DOC.md tells what each call answers. */
public final class UnitTurns {
    public static final int NONE = -1, BAD = -2, NO = -3, FULL = -4, MUCH = -5;

    private static final int UNITS = 3;
    private static final int UNIT_BITS = 4;
    private static final int UNIT_MASK = 15;
    /** All bits of three units but each one's highest: what a shift by one may leave. */
    private static final int PASS_MASK = 0x777;
    private static final int ALL_STATES = 4096;
    private static final int MOST_STATES = 150;
    private static final int MOST_KINDS = 5;
    private static final int MOST_LATENCY = 5;
    private static final int MOST_INSTRUCTIONS = 6;
    private static final int PAIRS = 36;
    private static final int MOST_WIDTH = 3;
    private static final int MOST_BACK = 5;
    private static final int MOST_BYTES = 120;
    private static final int RULES = 3;
    private static final int TRULY = 1, ANTI = 2;
    /** What is begun last begins 5 turns behind the one before, at the latest: 25, of six. */
    private static final int LAST_TURN = 25;
    private static final int ALL_TURNS = (1 << (LAST_TURN + 1)) - 1;
    private static final int LONGEST = 30;
    private static final int FAULT_BASE = -10, STOP_BASE = -1000;

    private final Setup current = new Setup();
    private final Setup draft = new Setup();
    private final Trail trail = new Trail();
    private final Chart chart = new Chart();
    private final Block block = new Block();
    private final Ranks ranks = new Ranks();
    private final Search search = new Search();
    private final Script script = new Script();
    private final int[] refusals = new int[4];

    public UnitTurns() {
    }

    // ---- kinds

    public int kind(int a, int b, int c, int latency) {
        draft.copyFrom(current);
        return settled(draft.addKind(a, b, c, latency));
    }

    public int sets(int what, int v) {
        draft.copyFrom(current);
        return settled(draft.change(what, v));
    }

    public int of(int k, int what) {
        if (!current.hasKind(k) || what < 0 || what > 4) {
            return counted(BAD);
        }
        return kindFact(k, what);
    }

    public int states() {
        chart.learn(current);
        return counted(chart.statesOrMuch());
    }

    public int state(int s, int what) {
        if (s < 0 || what < 0 || what > UNITS + current.kinds) {
            return counted(BAD);
        }
        chart.learn(current);
        if (chart.tooMany) {
            return counted(MUCH);
        }
        if (!chart.hasState(s)) {
            return counted(BAD);
        }
        return chart.stateFact(current, s, what);
    }

    public int classes() {
        chart.learn(current);
        return counted(chart.classesOrMuch());
    }

    public int alike(int s, int t) {
        if (s < 0 || t < 0) {
            return counted(BAD);
        }
        chart.learn(current);
        if (chart.tooMany) {
            return counted(MUCH);
        }
        if (!chart.hasState(s) || !chart.hasState(t)) {
            return counted(BAD);
        }
        return chart.sameClass(s, t) ? 1 : 0;
    }

    // ---- the block

    public int instruction(int kind) {
        draft.copyFrom(current);
        return settled(draft.addInstruction(kind));
    }

    public int needs(int i, int j, int sort) {
        draft.copyFrom(current);
        return settled(draft.changeNeed(i, j, sort));
    }

    public int drops(int i) {
        draft.copyFrom(current);
        return settled(draft.removeInstruction(i));
    }

    public int about(int i, int what) {
        if (!current.hasInstruction(i) || what < 0 || what > 4) {
            return counted(BAD);
        }
        return instructionFact(i, what);
    }

    public int bound() {
        block.learn(current);
        return block.leastLength();
    }

    public int best(int i) {
        if (i != NONE && !current.hasInstruction(i)) {
            return counted(BAD);
        }
        block.learn(current);
        search.learn(block);
        return i == NONE ? search.length : search.turns[i];
    }

    public int ranked(int rule, int i) {
        if (rule < 0 || rule >= RULES || (i != NONE && !current.hasInstruction(i))) {
            return counted(BAD);
        }
        int length = rankedLength(rule);
        return i == NONE ? length : ranks.turns[i];
    }

    public int plan(int turns) {
        if (turns < 0 || turns >= powerOfTen(current.instructions)) {
            return counted(BAD);
        }
        block.learn(current);
        return block.lengthByFigures(turns);
    }

    // ---- texts

    public int type(int c) {
        if (c < 0 || c > 127) {
            return counted(BAD);
        }
        if (script.length >= MOST_BYTES) {
            return counted(FULL);
        }
        return script.append(c);
    }

    public int clear() {
        return script.empty();
    }

    public int reads() {
        int fault = script.scan();
        if (fault != NONE) {
            return FAULT_BASE - fault;
        }
        draft.copyFrom(current);
        for (int n = 0; n < script.orders; n++) {
            if (script.perform(n, draft) < 0) {
                return STOP_BASE - n;
            }
        }
        return settled(script.orders);
    }

    public int back() {
        if (!trail.takeInto(current)) {
            return counted(NO);
        }
        forgetAnswers();
        return trail.size;
    }

    public int told(int what) {
        if (what < 0 || what > 9) {
            return counted(BAD);
        }
        return figure(what);
    }

    public long digest() {
        long h = 2459;
        for (int what = 0; what <= 9; what++) {
            h = 31 * h + figure(what);
        }
        for (int k = 0; k < current.kinds; k++) {
            for (int what = 0; what <= 4; what++) {
                h = 31 * h + kindFact(k, what);
            }
        }
        chart.learn(current);
        h = 31 * h + chart.statesOrMuch();
        h = 31 * h + chart.classesOrMuch();
        for (int i = 0; i < current.instructions; i++) {
            for (int what = 0; what <= 4; what++) {
                h = 31 * h + instructionFact(i, what);
            }
        }
        block.learn(current);
        h = 31 * h + block.leastLength();
        search.learn(block);
        h = 31 * h + search.length;
        for (int rule = 0; rule < RULES; rule++) {
            h = 31 * h + rankedLength(rule);
        }
        return h;
    }

    // ---- what the calls share

    /** Takes over what the draft has become, unless it was refused. */
    private int settled(int answer) {
        if (answer < 0) {
            return counted(answer);
        }
        trail.keep(current);
        current.copyFrom(draft);
        forgetAnswers();
        return answer;
    }

    private int counted(int answer) {
        if (answer <= BAD && answer >= MUCH) {
            refusals[BAD - answer]++;
        }
        return answer;
    }

    private void forgetAnswers() {
        chart.known = false;
        block.known = false;
        search.known = false;
    }

    private int kindFact(int k, int what) {
        switch (what) {
            case 3:
                return current.latency[k];
            case 4:
                return current.instructionsOf(k);
            default:
                return unitOf(current.holds[k], what);
        }
    }

    private int instructionFact(int i, int what) {
        block.learn(current);
        switch (what) {
            case 0:
                return current.kindOf[i];
            case 1:
                return block.way[i];
            case 2:
                return current.needsOf(i, TRULY);
            case 3:
                return current.needsOf(i, ANTI);
            default:
                return block.earliest[i];
        }
    }

    private int rankedLength(int rule) {
        block.learn(current);
        ranks.run(block, rule);
        return block.lengthOf(ranks.turns);
    }

    private int figure(int what) {
        switch (what) {
            case 4:
                return script.length;
            case 5:
                return current.kinds;
            case 6:
                return current.instructions;
            case 7:
                return current.width;
            case 8:
                return current.renamed;
            case 9:
                return trail.size;
            default:
                return what >= 0 && what < refusals.length ? refusals[what] : 0;
        }
    }

    private static int unitOf(int holds, int unit) {
        return (holds >> (UNIT_BITS * unit)) & UNIT_MASK;
    }

    /** What is still held when that many turns (0 or more) have passed. */
    private static int passed(int holds, int turns) {
        int left = holds;
        for (int n = 0; n < turns; n++) {
            left = (left >> 1) & PASS_MASK;
        }
        return left;
    }

    private static int powerOfTen(int figures) {
        int power = 1;
        for (int n = 0; n < figures; n++) {
            power *= 10;
        }
        return power;
    }

    private static int pair(int i, int j) {
        return i * MOST_INSTRUCTIONS + j;
    }

    /** All that a state back brings again. Its changes answer as the calls do, and count nothing. */
    private static final class Setup {
        final int[] holds = new int[MOST_KINDS];
        final int[] latency = new int[MOST_KINDS];
        final int[] kindOf = new int[MOST_INSTRUCTIONS];
        final int[] sorts = new int[PAIRS];
        int kinds;
        int instructions;
        int width = 1;
        int renamed;

        void copyFrom(Setup other) {
            System.arraycopy(other.holds, 0, holds, 0, MOST_KINDS);
            System.arraycopy(other.latency, 0, latency, 0, MOST_KINDS);
            System.arraycopy(other.kindOf, 0, kindOf, 0, MOST_INSTRUCTIONS);
            System.arraycopy(other.sorts, 0, sorts, 0, PAIRS);
            kinds = other.kinds;
            instructions = other.instructions;
            width = other.width;
            renamed = other.renamed;
        }

        boolean hasKind(int k) {
            return k >= 0 && k < kinds;
        }

        boolean hasInstruction(int i) {
            return i >= 0 && i < instructions;
        }

        int addKind(int a, int b, int c, int turns) {
            if (!isHold(a) || !isHold(b) || !isHold(c) || turns < 1 || turns > MOST_LATENCY) {
                return BAD;
            }
            if (kinds >= MOST_KINDS) {
                return FULL;
            }
            holds[kinds] = a | b << UNIT_BITS | c << (2 * UNIT_BITS);
            latency[kinds] = turns;
            kinds++;
            return kinds - 1;
        }

        int change(int what, int v) {
            if (what == 0 && v >= 1 && v <= MOST_WIDTH) {
                int old = width;
                width = v;
                return old;
            }
            if (what == 1 && (v == 0 || v == 1)) {
                int old = renamed;
                renamed = v;
                return old;
            }
            return BAD;
        }

        int addInstruction(int k) {
            if (!hasKind(k)) {
                return BAD;
            }
            if (instructions >= MOST_INSTRUCTIONS) {
                return FULL;
            }
            kindOf[instructions] = k;
            instructions++;
            return instructions - 1;
        }

        int changeNeed(int i, int j, int sort) {
            if (!hasInstruction(i) || !hasInstruction(j) || i == j || sort < 0 || sort > ANTI) {
                return BAD;
            }
            if (sort != 0 && reaches(j, i)) {
                return NO;
            }
            int old = sorts[pair(i, j)];
            sorts[pair(i, j)] = sort;
            return old;
        }

        int removeInstruction(int gone) {
            if (!hasInstruction(gone)) {
                return BAD;
            }
            instructions--;
            for (int i = gone; i < instructions; i++) {
                kindOf[i] = kindOf[i + 1];
            }
            for (int i = 0; i < instructions; i++) {
                for (int j = 0; j < instructions; j++) {
                    int oldI = i < gone ? i : i + 1;
                    int oldJ = j < gone ? j : j + 1;
                    sorts[pair(i, j)] = sorts[pair(oldI, oldJ)];
                }
            }
            clearNeedsFrom(instructions);
            return instructions;
        }

        int instructionsOf(int k) {
            int found = 0;
            for (int i = 0; i < instructions; i++) {
                if (kindOf[i] == k) {
                    found++;
                }
            }
            return found;
        }

        int needsOf(int i, int sort) {
            int found = 0;
            for (int j = 0; j < instructions; j++) {
                if (sorts[pair(i, j)] == sort) {
                    found++;
                }
            }
            return found;
        }

        /** How many turns i must begin behind j at the least; NONE: it needs it in no way that counts. */
        int delay(int i, int j) {
            int sort = sorts[pair(i, j)];
            if (sort == TRULY) {
                return latency[kindOf[j]];
            }
            return sort == ANTI && renamed == 0 ? 0 : NONE;
        }

        private static boolean isHold(int bits) {
            return bits >= 0 && bits <= UNIT_MASK;
        }

        /** An instruction that comes later finds no needs where an older one stood. */
        private void clearNeedsFrom(int gone) {
            for (int i = 0; i <= gone; i++) {
                sorts[pair(i, gone)] = 0;
                sorts[pair(gone, i)] = 0;
            }
        }

        /** Whether going from one to what it needs, on and on, comes to the goal. */
        private boolean reaches(int from, int goal) {
            int seen = 1 << from;
            for (int round = 0; round < instructions; round++) {
                for (int i = 0; i < instructions; i++) {
                    if ((seen >> i & 1) != 0) {
                        seen |= neededBy(i);
                    }
                }
            }
            return (seen >> goal & 1) != 0;
        }

        private int neededBy(int i) {
            int bits = 0;
            for (int j = 0; j < instructions; j++) {
                if (sorts[pair(i, j)] != 0) {
                    bits |= 1 << j;
                }
            }
            return bits;
        }
    }

    /** The states back, in a ring: the oldest is written over. */
    private static final class Trail {
        final Setup[] kept = new Setup[MOST_BACK];
        int next;
        int size;

        Trail() {
            for (int n = 0; n < MOST_BACK; n++) {
                kept[n] = new Setup();
            }
        }

        void keep(Setup setup) {
            kept[next].copyFrom(setup);
            next = next + 1 < MOST_BACK ? next + 1 : 0;
            if (size < MOST_BACK) {
                size++;
            }
        }

        boolean takeInto(Setup setup) {
            if (size <= 0) {
                return false;
            }
            next = next > 0 ? next - 1 : MOST_BACK - 1;
            size--;
            setup.copyFrom(kept[next]);
            return true;
        }
    }

    /** The states that can be, as they are numbered, and their classes. */
    private static final class Chart {
        final int[] found = new int[MOST_STATES];
        final int[] clashes = new int[MOST_STATES];
        /** By the bits of a state its number and 1; 0: not found. */
        final int[] places = new int[ALL_STATES];
        int count;
        int classCount;
        boolean tooMany;
        boolean known;

        void learn(Setup setup) {
            if (known) {
                return;
            }
            forgetStates();
            findStates(setup);
            if (!tooMany) {
                tellClasses(setup);
            }
            known = true;
        }

        int statesOrMuch() {
            return tooMany ? MUCH : count;
        }

        int classesOrMuch() {
            return tooMany ? MUCH : classCount;
        }

        boolean hasState(int s) {
            return s >= 0 && s < count;
        }

        boolean sameClass(int s, int t) {
            return clashes[s] == clashes[t];
        }

        int stateFact(Setup setup, int s, int what) {
            int bits = found[s];
            if (what < UNITS) {
                return unitOf(bits, what);
            }
            if (what == UNITS) {
                return places[passed(bits, 1)] - 1;
            }
            int holds = setup.holds[what - UNITS - 1];
            return (bits & holds) != 0 ? NONE : places[bits | holds] - 1;
        }

        private void forgetStates() {
            for (int s = 0; s < count; s++) {
                places[found[s]] = 0;
            }
            count = 0;
            tooMany = false;
        }

        private void findStates(Setup setup) {
            note(0);
            for (int s = 0; s < MOST_STATES && s < count && !tooMany; s++) {
                int bits = found[s];
                for (int k = 0; k < setup.kinds; k++) {
                    if ((bits & setup.holds[k]) == 0) {
                        note(bits | setup.holds[k]);
                    }
                }
                note(passed(bits, 1));
            }
        }

        private void note(int bits) {
            if (places[bits] != 0) {
                return;
            }
            if (count >= MOST_STATES) {
                tooMany = true;
                return;
            }
            found[count] = bits;
            count++;
            places[bits] = count;
        }

        private void tellClasses(Setup setup) {
            classCount = 0;
            for (int s = 0; s < count; s++) {
                clashes[s] = clashesOf(setup, found[s]);
                if (isFirstOfClass(s)) {
                    classCount++;
                }
            }
        }

        private boolean isFirstOfClass(int s) {
            for (int t = 0; t < s; t++) {
                if (clashes[t] == clashes[s]) {
                    return false;
                }
            }
            return true;
        }

        /**
         * Which kinds can not be read after 0 to 3 passes. States are alike just if they have
         * this in common: a kind that is read adds clashes of its own, whatever the state was,
         * and one clash that only one of two states has is shown by passes and that kind.
         */
        private static int clashesOf(Setup setup, int bits) {
            int clash = 0;
            for (int turn = 0; turn < UNIT_BITS; turn++) {
                int held = passed(bits, turn);
                for (int k = 0; k < setup.kinds; k++) {
                    if ((held & setup.holds[k]) != 0) {
                        clash |= 1 << (turn * MOST_KINDS + k);
                    }
                }
            }
            return clash;
        }
    }

    /** What follows from the block alone, for all plans of it. */
    private static final class Block {
        final int[] holds = new int[MOST_INSTRUCTIONS];
        final int[] span = new int[MOST_INSTRUCTIONS];
        final int[] way = new int[MOST_INSTRUCTIONS];
        final int[] earliest = new int[MOST_INSTRUCTIONS];
        /** Of a pair i, j: how many turns i must begin behind j; NONE: it may anywhere. */
        final int[] delay = new int[PAIRS];
        /** Of a pair i, j: bit d + 3 tells that a unit is held twice if j begins d turns behind i. */
        final int[] clash = new int[PAIRS];
        final int[] figures = new int[MOST_INSTRUCTIONS];
        int count;
        int width;
        boolean known;

        void learn(Setup setup) {
            if (known) {
                return;
            }
            count = setup.instructions;
            width = setup.width;
            for (int i = 0; i < count; i++) {
                int k = setup.kindOf[i];
                holds[i] = setup.holds[k];
                span[i] = Math.max(setup.latency[k], turnsHeld(holds[i]));
            }
            for (int i = 0; i < count; i++) {
                for (int j = 0; j < count; j++) {
                    delay[pair(i, j)] = setup.delay(i, j);
                    clash[pair(i, j)] = clashOf(holds[i], holds[j]);
                }
            }
            measureWays();
            known = true;
        }

        int leastLength() {
            int most = width > 0 ? (count + width - 1) / width : 0;
            for (int i = 0; i < count; i++) {
                most = Math.max(most, way[i]);
            }
            for (int unit = 0; unit < UNITS; unit++) {
                int held = 0;
                for (int i = 0; i < count; i++) {
                    held += Integer.bitCount(unitOf(holds[i], unit));
                }
                most = Math.max(most, held);
            }
            return most;
        }

        int lengthOf(int[] turns) {
            int length = 0;
            for (int i = 0; i < count; i++) {
                length = Math.max(length, turns[i] + span[i]);
            }
            return length;
        }

        int lengthByFigures(int number) {
            int rest = number;
            for (int i = count - 1; i >= 0; i--) {
                figures[i] = rest % 10;
                rest /= 10;
            }
            return isPlan(figures) ? lengthOf(figures) : NONE;
        }

        boolean clashes(int i, int turnOfI, int j, int turnOfJ) {
            int behind = turnOfJ - turnOfI;
            return behind > -UNIT_BITS && behind < UNIT_BITS
                && (clash[pair(i, j)] >> (behind + UNIT_BITS - 1) & 1) != 0;
        }

        private boolean isPlan(int[] turns) {
            for (int i = 0; i < count; i++) {
                int together = 0;
                for (int j = 0; j < count; j++) {
                    if (turns[j] == turns[i]) {
                        together++;
                    }
                    if (delay[pair(i, j)] != NONE && turns[i] < turns[j] + delay[pair(i, j)]) {
                        return false;
                    }
                    if (i != j && clashes(i, turns[i], j, turns[j])) {
                        return false;
                    }
                }
                if (together > width) {
                    return false;
                }
            }
            return true;
        }

        /** As many rounds as instructions: no row of needs is longer, since there is no ring. */
        private void measureWays() {
            for (int i = 0; i < count; i++) {
                way[i] = span[i];
                earliest[i] = 0;
            }
            for (int round = 0; round < count; round++) {
                for (int i = 0; i < count; i++) {
                    for (int j = 0; j < count; j++) {
                        int behind = delay[pair(i, j)];
                        if (behind != NONE) {
                            way[j] = Math.max(way[j], behind + way[i]);
                            earliest[i] = Math.max(earliest[i], behind + earliest[j]);
                        }
                    }
                }
            }
        }

        private static int turnsHeld(int holds) {
            int turns = 0;
            for (int n = 0; n < UNIT_BITS; n++) {
                if (passed(holds, n) != 0) {
                    turns = n + 1;
                }
            }
            return turns;
        }

        private static int clashOf(int holds, int other) {
            int bits = 0;
            for (int d = 0; d < UNIT_BITS; d++) {
                if ((passed(holds, d) & other) != 0) {
                    bits |= 1 << (UNIT_BITS - 1 + d);
                }
                if ((holds & passed(other, d)) != 0) {
                    bits |= 1 << (UNIT_BITS - 1 - d);
                }
            }
            return bits;
        }
    }

    /** The row by ranks, turn by turn. */
    private static final class Ranks {
        final int[] turns = new int[MOST_INSTRUCTIONS];
        final int[] order = new int[MOST_INSTRUCTIONS];
        final int[] weight = new int[MOST_INSTRUCTIONS];

        void run(Block block, int rule) {
            weigh(block, rule);
            sort(block.count);
            Arrays.fill(turns, NONE);
            int left = block.count;
            for (int now = 0; now <= LAST_TURN && left > 0; now++) {
                left -= beginAt(block, now);
            }
        }

        private void weigh(Block block, int rule) {
            for (int i = 0; i < block.count; i++) {
                weight[i] = 0;
                if (rule == 0) {
                    weight[i] = block.way[i];
                } else if (rule == 2) {
                    for (int j = 0; j < block.count; j++) {
                        if (block.delay[pair(j, i)] != NONE) {
                            weight[i]++;
                        }
                    }
                }
            }
        }

        /** The greater weight first, of like ones by numbers. */
        private void sort(int count) {
            for (int i = 0; i < count; i++) {
                int place = i;
                while (place > 0 && weight[order[place - 1]] < weight[i]) {
                    order[place] = order[place - 1];
                    place--;
                }
                order[place] = i;
            }
        }

        private int beginAt(Block block, int now) {
            int begun = 0;
            for (int n = 0; n < block.count && begun < block.width; n++) {
                int i = order[n];
                if (turns[i] == NONE && isReady(block, i, now) && isFree(block, i, now)) {
                    turns[i] = now;
                    begun++;
                }
            }
            return begun;
        }

        private boolean isReady(Block block, int i, int now) {
            for (int j = 0; j < block.count; j++) {
                int behind = block.delay[pair(i, j)];
                if (behind != NONE && (turns[j] == NONE || turns[j] + behind > now)) {
                    return false;
                }
            }
            return true;
        }

        private boolean isFree(Block block, int i, int now) {
            for (int j = 0; j < block.count; j++) {
                if (turns[j] != NONE && block.clashes(j, turns[j], i, now)) {
                    return false;
                }
            }
            return true;
        }
    }

    /**
     * A bound by rows: any of the block, sorted by their turns, keep neighbours apart. It starts
     * the search nearer to the least length than BOUND does, where unlike units clash.
     */
    private static final class Rows {
        private static final int SETS = 64;
        private static final int FAR = 1000;
        /** By a set of instructions and its last one: the least turn at which that can begin. */
        final int[] least = new int[SETS * MOST_INSTRUCTIONS];
        /** Of a pair i, j: how many turns j begins behind i at the least, if it is not ahead. */
        final int[] apart = new int[PAIRS];

        int leastLength(Block block, int[] gap) {
            measureApart(block, gap);
            int most = 0;
            for (int set = 1; set < SETS && set < 1 << block.count; set++) {
                most = Math.max(most, lengthOfSet(block, gap, set));
            }
            return most;
        }

        private void measureApart(Block block, int[] gap) {
            for (int i = 0; i < block.count; i++) {
                for (int j = 0; j < block.count; j++) {
                    int turns = Math.max(gap[pair(i, j)], block.width > 1 ? 0 : 1);
                    while (turns < UNIT_BITS && block.clashes(i, 0, j, turns)) {
                        turns++;
                    }
                    apart[pair(i, j)] = turns;
                }
            }
        }

        private int lengthOfSet(Block block, int[] gap, int set) {
            int shortest = FAR;
            for (int last = 0; last < block.count; last++) {
                if ((set >> last & 1) != 0) {
                    int turn = turnOfLast(block, gap, set & ~(1 << last), last);
                    least[set * MOST_INSTRUCTIONS + last] = turn;
                    shortest = Math.min(shortest, turn + block.way[last]);
                }
            }
            return shortest;
        }

        /** FAR: one of those ahead of the last has to begin behind it. */
        private int turnOfLast(Block block, int[] gap, int ahead, int last) {
            if (ahead == 0) {
                return block.earliest[last];
            }
            int turn = FAR;
            for (int i = 0; i < block.count; i++) {
                if ((ahead >> i & 1) != 0) {
                    if (gap[pair(last, i)] != NONE) {
                        return FAR;
                    }
                    turn = Math.min(turn, least[ahead * MOST_INSTRUCTIONS + i] + apart[pair(i, last)]);
                }
            }
            return Math.max(turn, block.earliest[last]);
        }
    }

    /** The best plan: the least length that has one, then the first of that length. */
    private static final class Search {
        /** Row n: the turns (bits) still open to each instruction once n of them stand. */
        final int[] open = new int[PAIRS + MOST_INSTRUCTIONS];
        /** Of a pair i, j: how many turns j begins behind i at the least, by all needs; NONE: free. */
        final int[] gap = new int[PAIRS];
        final int[] trial = new int[MOST_INSTRUCTIONS];
        final int[] turns = new int[MOST_INSTRUCTIONS];
        final Rows rows = new Rows();
        int length;
        boolean known;

        void learn(Block block) {
            if (known) {
                return;
            }
            measureGaps(block);
            length = Math.max(block.leastLength(), rows.leastLength(block, gap));
            for (int tried = 0; tried <= LONGEST && !hasPlan(block); tried++) {
                length++;
            }
            takeTrial(block);
            takeFirst(block);
            known = true;
        }

        private void measureGaps(Block block) {
            for (int i = 0; i < block.count; i++) {
                for (int j = 0; j < block.count; j++) {
                    int behind = block.delay[pair(j, i)];
                    gap[pair(i, j)] = i < j && areLike(block, i, j) ? 0 : behind;
                }
            }
            for (int over = 0; over < block.count; over++) {
                for (int i = 0; i < block.count; i++) {
                    for (int j = 0; j < block.count; j++) {
                        widenGap(i, over, j);
                    }
                }
            }
        }

        private void widenGap(int i, int over, int j) {
            int first = gap[pair(i, over)];
            int second = gap[pair(over, j)];
            if (first != NONE && second != NONE) {
                gap[pair(i, j)] = Math.max(gap[pair(i, j)], first + second);
            }
        }

        /**
         * Whether two can change places in every plan: then the first of like plans has the lesser
         * number no later, and the search need not look at the others.
         */
        private static boolean areLike(Block block, int i, int j) {
            if (block.holds[i] != block.holds[j] || block.span[i] != block.span[j]
                || block.delay[pair(i, j)] != NONE || block.delay[pair(j, i)] != NONE) {
                return false;
            }
            for (int m = 0; m < block.count; m++) {
                if (m != i && m != j && (block.delay[pair(i, m)] != block.delay[pair(j, m)]
                    || block.delay[pair(m, i)] != block.delay[pair(m, j)])) {
                    return false;
                }
            }
            return true;
        }

        private boolean hasPlan(Block block) {
            return openAll(block) && place(block, 0, 0);
        }

        private boolean openAll(Block block) {
            for (int i = 0; i < block.count; i++) {
                open[i] = from(block.earliest[i]) & upTo(length - block.way[i]);
                if (open[i] == 0) {
                    return false;
                }
            }
            return true;
        }

        /** Those of the set stand on their trial turns; whether the others can be put beside them. */
        private boolean place(Block block, int level, int standing) {
            int i = level < MOST_INSTRUCTIONS ? tightest(block, level, standing) : NONE;
            if (i == NONE) {
                return true;
            }
            int bits = open[pair(level, i)];
            for (int turn = 0; turn <= LAST_TURN; turn++) {
                if ((bits >> turn & 1) != 0 && isPossible(block, level, i, turn, standing | 1 << i)) {
                    return true;
                }
            }
            return false;
        }

        /** Whether the others can be put if i, now one of those that stand, has this turn. */
        private boolean isPossible(Block block, int level, int i, int turn, int standing) {
            trial[i] = turn;
            return narrow(block, level, i, standing) && place(block, level + 1, standing);
        }

        /** The one with the fewest turns open, so that what can't be is seen early; NONE: all stand. */
        private int tightest(Block block, int level, int standing) {
            int found = NONE;
            int fewest = 0;
            for (int i = 0; i < block.count; i++) {
                if ((standing >> i & 1) == 0) {
                    int turnsOpen = Integer.bitCount(open[pair(level, i)]);
                    if (found == NONE || turnsOpen < fewest) {
                        found = i;
                        fewest = turnsOpen;
                    }
                }
            }
            return found;
        }

        /** Writes the next row: takes from the others what i's turn forbids; false: one has none left. */
        private boolean narrow(Block block, int level, int i, int standing) {
            int turn = trial[i];
            int full = isFull(block, turn, standing) ? 1 << turn : 0;
            for (int j = 0; j < block.count; j++) {
                if ((standing >> j & 1) == 0) {
                    int bits = open[pair(level, j)] & ~full;
                    bits &= ~((block.clash[pair(i, j)] << turn) >>> (UNIT_BITS - 1));
                    if (gap[pair(i, j)] != NONE) {
                        bits &= from(turn + gap[pair(i, j)]);
                    }
                    if (gap[pair(j, i)] != NONE) {
                        bits &= upTo(turn - gap[pair(j, i)]);
                    }
                    if (bits == 0) {
                        return false;
                    }
                    open[pair(level + 1, j)] = bits;
                }
            }
            return true;
        }

        private boolean isFull(Block block, int turn, int standing) {
            int together = 0;
            for (int j = 0; j < block.count; j++) {
                if ((standing >> j & 1) != 0 && trial[j] == turn) {
                    together++;
                }
            }
            return together >= block.width;
        }

        private void takeTrial(Block block) {
            System.arraycopy(trial, 0, turns, 0, block.count);
        }

        /**
         * Instruction by instruction the least turn with which the others can still be put; row 0
         * is still as the length that has a plan left it.
         */
        private void takeFirst(Block block) {
            for (int i = 0; i < block.count; i++) {
                int standing = (1 << (i + 1)) - 1;
                int bits = open[pair(i, i)] & upTo(turns[i] - 1);
                for (int turn = 0; turn <= LAST_TURN; turn++) {
                    if ((bits >> turn & 1) != 0 && isPossible(block, i, i, turn, standing)) {
                        takeTrial(block);
                        break;
                    }
                }
                trial[i] = turns[i];
                narrow(block, i, i, standing);
            }
        }

        private static int from(int turn) {
            if (turn > LAST_TURN) {
                return 0;
            }
            return turn <= 0 ? ALL_TURNS : ALL_TURNS & (-1 << turn);
        }

        private static int upTo(int turn) {
            if (turn < 0) {
                return 0;
            }
            return turn >= LAST_TURN ? ALL_TURNS : (1 << (turn + 1)) - 1;
        }
    }

    /** The text, and the orders that it tells. */
    private static final class Script {
        private static final int MOST_ORDERS = 40;
        private static final int MOST_NUMBERS = 4;
        private static final int BLANK = 32;

        final int[] bytes = new int[MOST_BYTES];
        final int[] letters = new int[MOST_ORDERS];
        final int[] numbers = new int[MOST_ORDERS * MOST_NUMBERS];
        int length;
        int orders;
        private int place;

        int append(int c) {
            if (length < MOST_BYTES) {
                bytes[length] = c;
                length++;
            }
            return length;
        }

        int empty() {
            int had = length;
            length = 0;
            return had;
        }

        /** Finds the orders; answers the fault's place, or NONE. */
        int scan() {
            orders = 0;
            place = 0;
            skipBlanks();
            if (place >= length) {
                return place;
            }
            while (place < length && orders < MOST_ORDERS) {
                if (!scanOrder()) {
                    return place;
                }
                orders++;
                skipBlanks();
            }
            return place < length ? place : NONE;
        }

        /** What the order's call would answer. */
        int perform(int order, Setup setup) {
            int at = order * MOST_NUMBERS;
            switch (letters[order]) {
                case 'k':
                    return setup.addKind(numbers[at], numbers[at + 1], numbers[at + 2], numbers[at + 3]);
                case 'i':
                    return setup.addInstruction(numbers[at]);
                case 'n':
                    return setup.changeNeed(numbers[at], numbers[at + 1], TRULY);
                case 'a':
                    return setup.changeNeed(numbers[at], numbers[at + 1], ANTI);
                case 'w':
                    return setup.change(0, numbers[at]);
                case 'r':
                    return setup.change(1, numbers[at]);
                default:
                    return setup.removeInstruction(numbers[at]);
            }
        }

        /** One order and its end; false: place is where the fault is. */
        private boolean scanOrder() {
            int wanted = numbersBehind(byteHere());
            if (wanted == 0) {
                return false;
            }
            letters[orders] = byteHere();
            place++;
            for (int n = 0; n < wanted; n++) {
                skipBlanks();
                if (!scanNumber(orders * MOST_NUMBERS + n)) {
                    return false;
                }
            }
            skipBlanks();
            if (byteHere() != ';') {
                return false;
            }
            place++;
            return true;
        }

        private boolean scanNumber(int at) {
            if (!isFigureHere()) {
                return false;
            }
            numbers[at] = byteHere() - '0';
            place++;
            if (isFigureHere()) {
                numbers[at] = numbers[at] * 10 + byteHere() - '0';
                place++;
            }
            return !isFigureHere();
        }

        private static int numbersBehind(int letter) {
            switch (letter) {
                case 'k':
                    return 4;
                case 'n':
                case 'a':
                    return 2;
                case 'i':
                case 'w':
                case 'r':
                case 'x':
                    return 1;
                default:
                    return 0;
            }
        }

        private void skipBlanks() {
            while (place < length && bytes[place] == BLANK) {
                place++;
            }
        }

        private boolean isFigureHere() {
            return byteHere() >= '0' && byteHere() <= '9';
        }

        /** NONE: the text ends here. */
        private int byteHere() {
            return place < length ? bytes[place] : NONE;
        }
    }
}
