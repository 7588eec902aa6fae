import java.util.Random;

/** Full blocks, where the best plan is hard to find, beside the model that tries all turns. */
public final class SearchTest {
    /** Kinds of four numbers each, then six instructions: blocks that were found dear to search. */
    private static final int[][] DEAR = {
        {6, 9, 10, 2, 13, 13, 0, 4, 11, 9, 2, 1, 6, 9, 11, 4, 0, 10, 0, 2, 4, 2, 0, 3, 0, 0},
        {9, 13, 14, 4, 12, 5, 12, 4, 0, 12, 11, 4, 9, 12, 5, 5, 0, 0, 0, 1, 1, 4, 4, 3, 3, 3},
        {0, 0, 0, 1, 0, 0, 0, 2, 3, 9, 11, 5, 9, 11, 8, 5, 14, 0, 3, 1, 4, 1, 0, 2, 2, 3},
        {15, 14, 0, 1, 3, 8, 11, 1, 13, 10, 9, 5, 1, 13, 10, 1, 14, 15, 12, 5, 1, 2, 4, 3, 4, 4},
    };
    private static int wrong = 0;

    public static void main(String[] args) {
        for (int[] dear : DEAR) {
            for (int width = 1; width <= 3; width++) {
                check(dear, new Random(width), width, 0);
            }
        }
        for (int seed = 0; seed < 3000; seed++) {
            Random random = new Random(seed);
            int scarce = random.nextInt(3);
            int[] genes = new int[26];
            for (int n = 0; n < 26; n++) {
                genes[n] = n >= 20 ? random.nextInt(5) : n % 4 == 3 ? 1 + random.nextInt(5) : bits(random, scarce);
            }
            check(genes, random, 1 + random.nextInt(3), random.nextInt(5));
        }
        System.out.println(wrong == 0 ? "all best plans are as the model's" : wrong + " best plans are wrong");
        if (wrong != 0) {
            System.exit(1);
        }
    }

    private static int bits(Random random, int scarce) {
        int bits = random.nextInt(16);
        for (int n = 0; n < scarce; n++) {
            bits &= random.nextInt(16);
        }
        return bits;
    }

    private static void check(int[] genes, Random random, int width, int needs) {
        UnitTurns x = new UnitTurns();
        Model m = new Model();
        for (int k = 0; k < 20; k += 4) {
            x.kind(genes[k], genes[k + 1], genes[k + 2], genes[k + 3]);
            m.kind(genes[k], genes[k + 1], genes[k + 2], genes[k + 3]);
        }
        for (int n = 20; n < 26; n++) {
            x.instruction(genes[n]);
            m.instruction(genes[n]);
        }
        x.sets(0, width);
        m.sets(0, width);
        for (int n = 0; n < needs; n++) {
            int i = random.nextInt(6);
            int j = random.nextInt(6);
            int sort = 1 + random.nextInt(2);
            x.needs(i, j, sort);
            m.needs(i, j, sort);
        }
        int[] due = m.bestTurns();
        boolean same = x.best(UnitTurns.NONE) == m.lengthOf(due);
        for (int i = 0; i < 6; i++) {
            same &= x.best(i) == due[i];
        }
        if (!same) {
            wrong++;
            System.out.println("wrong: " + java.util.Arrays.toString(genes) + " width " + width);
        }
    }
}
