import java.io.IOException;
import java.nio.file.Files;
import java.nio.file.Path;
import java.util.LinkedHashMap;
import java.util.Map;

/**
 * What the tests of boundary cases share. Each test bears the document's own words: they must stand
 * in ../shared/DOC.md under the heading that is told, so that no test is of a sentence that is not
 * there; and a test that checks nothing is wrong.
 */
abstract class Edges {
    static final int NONE = UnitTurns.NONE, BAD = UnitTurns.BAD, NO = UnitTurns.NO;
    static final int FULL = UnitTurns.FULL, MUCH = UnitTurns.MUCH;
    static final int LOW = Integer.MIN_VALUE, HIGH = Integer.MAX_VALUE;
    /** Five kinds with 150 states, four with 151: a, b, c, latency each. */
    static final int[] JUST_150 = {8, 0, 8, 1, 2, 1, 11, 1, 4, 0, 0, 1, 15, 1, 2, 1, 8, 3, 12, 1};
    static final int[] JUST_151 = {4, 8, 6, 1, 2, 0, 1, 1, 4, 0, 8, 1, 2, 13, 0, 1};
    /** Kinds (8 of unit 0), (8 of unit 1): 256 states, too many. */
    static final int[] TOO_MANY = {8, 0, 0, 1, 0, 8, 0, 1};

    private static final Map<String, String> PARTS = readParts();
    private static String part = "";
    private static String sentence = "";
    private static int sentences = 0;
    private static int checks = 0;
    private static int wrong = 0;

    private static Map<String, String> readParts() {
        Map<String, String> parts = new LinkedHashMap<>();
        try {
            for (String text : Files.readString(Path.of("../shared/DOC.md")).split("\n## ")) {
                int end = text.indexOf('\n');
                parts.put(text.substring(0, end).trim(), text.substring(end).replaceAll("\\s+", " "));
            }
        } catch (IOException e) {
            System.out.println("the document can't be read: " + e);
        }
        return parts;
    }

    /** Under which heading of the document the next sentences stand. */
    static void under(String heading) {
        part = heading;
        if (!PARTS.containsKey(heading)) {
            wrong++;
            System.out.println("the document has no heading '" + heading + "'");
        }
    }

    static void test(String words, Runnable body) {
        sentence = words;
        sentences++;
        int before = checks;
        if (!PARTS.getOrDefault(part, "").contains(words)) {
            wrong++;
            System.out.println("the document does not say, under '" + part + "': " + words);
        }
        body.run();
        if (checks == before) {
            wrong++;
            System.out.println("nothing is checked of: " + words);
        }
    }

    static void due(String call, long got, long want) {
        checks++;
        if (got != want) {
            wrong++;
            System.out.println(part + ": \"" + sentence + "\": " + call + " answered " + got + ", due is " + want);
        }
    }

    static void end() {
        System.out.println(sentences + " sentences, " + checks + " checks, " + wrong + " wrong");
        if (wrong != 0 || checks == 0) {
            System.exit(1);
        }
    }

    /** An object with kinds of four numbers each. */
    static UnitTurns kinds(int... numbers) {
        UnitTurns x = new UnitTurns();
        for (int n = 0; n + 3 < numbers.length; n += 4) {
            x.kind(numbers[n], numbers[n + 1], numbers[n + 2], numbers[n + 3]);
        }
        return x;
    }

    /** So many instructions of kind 0, which holds nothing and has that latency. */
    static UnitTurns free(int instructions, int latency) {
        return block(kinds(0, 0, 0, latency), new int[instructions]);
    }

    static UnitTurns block(UnitTurns x, int... kinds) {
        for (int k : kinds) {
            x.instruction(k);
        }
        return x;
    }

    /** A kind with these bits of one unit alone. */
    static UnitTurns unit(UnitTurns x, int unit, int bits, int latency) {
        x.kind(unit == 0 ? bits : 0, unit == 1 ? bits : 0, unit == 2 ? bits : 0, latency);
        return x;
    }

    static void type(UnitTurns x, String text) {
        for (int n = 0; n < text.length(); n++) {
            x.type(text.charAt(n));
        }
    }

    static int reads(UnitTurns x, String text) {
        x.clear();
        type(x, text);
        return x.reads();
    }

    static void dueTold(String when, UnitTurns x, int... want) {
        for (int what = 0; what < 10; what++) {
            due(when + ": told(" + what + ")", x.told(what), want[what]);
        }
    }

    /** The length and the turns of the best plan (rule NONE) or of the row by ranks. */
    static void dueTurns(String when, UnitTurns x, int rule, int length, int... turns) {
        due(when + ": length", rule == NONE ? x.best(NONE) : x.ranked(rule, NONE), length);
        for (int i = 0; i < turns.length; i++) {
            due(when + ": turn of " + i, rule == NONE ? x.best(i) : x.ranked(rule, i), turns[i]);
        }
    }

    static void dueState(UnitTurns x, int s, int a, int b, int c) {
        due("state(" + s + ", 0)", x.state(s, 0), a);
        due("state(" + s + ", 1)", x.state(s, 1), b);
        due("state(" + s + ", 2)", x.state(s, 2), c);
    }

    /** All that can be asked of an object without changing it, as one text, refusals aside. */
    static String asked(UnitTurns x) {
        StringBuilder all = new StringBuilder();
        for (int what = 4; what < 10; what++) {
            all.append(x.told(what)).append(' ');
        }
        for (int k = 0; k < x.told(5); k++) {
            for (int what = 0; what < 5; what++) {
                all.append(x.of(k, what)).append(' ');
            }
        }
        for (int i = 0; i < x.told(6); i++) {
            for (int what = 0; what < 5; what++) {
                all.append(x.about(i, what)).append(' ');
            }
            all.append(x.best(i)).append(' ');
            for (int rule = 0; rule < 3; rule++) {
                all.append(x.ranked(rule, i)).append(' ');
            }
        }
        return all.append(x.bound()).append(' ').append(x.best(NONE)).toString();
    }

    /** What an object is and was: as asked, then back by back, then its text read. It is spent by that. */
    static String spent(UnitTurns x) {
        StringBuilder all = new StringBuilder(asked(x));
        for (int left = x.told(9); left > 0; left--) {
            all.append(" | ").append(x.back()).append(' ').append(asked(x));
        }
        return all.append(" | ").append(x.reads()).append(' ').append(asked(x)).toString();
    }

    static long hash(int... values) {
        long h = 2459;
        for (int v : values) {
            h = 31 * h + v;
        }
        return h;
    }
}
