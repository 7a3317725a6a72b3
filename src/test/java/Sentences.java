import java.util.ArrayList;
import java.util.LinkedHashMap;
import java.util.List;
import java.util.Map;
import java.util.NoSuchElementException;

/** What the tests of sentences share: which sentence is held, what is due, and towns told as texts. */
abstract class Sentences {
    interface Test {
        void run();
    }

    /** For each section of the document the words that tests hold. */
    static final Map<String, List<String>> HELD = new LinkedHashMap<>();
    static final String SIX_BASINS = "00.;11!;22.;33!;44.;55!";
    static final String EIGHT_SLUICES = "01g;12w;23s;34g;45w;50s;02g;13w";
    static final int[] FAR_OFF = {Integer.MIN_VALUE, -1000, 1000, Integer.MAX_VALUE};

    static int tests = 0;
    static int answers = 0;
    static int wrong = 0;
    private static String section = "";
    private static String sentence = "";

    static void terms() {
        section = "Terms";
    }

    static void promise(int n) {
        section = "Promise " + n + ":";
    }

    static void opening() {
        section = "What it is";
    }

    /** A test of its own for words of the section. */
    static void holds(String words, Test test) {
        sentence = words;
        tests++;
        HELD.computeIfAbsent(section, s -> new ArrayList<>()).add(words);
        int before = answers;
        try {
            test.run();
        } catch (RuntimeException e) {
            fails("throws " + e);
        }
        if (answers == before) {
            fails("the test asks nothing");
        }
    }

    static void fails(String what) {
        wrong++;
        System.out.println(section + " \"" + sentence + "\": " + what);
    }

    static void due(String what, long got, long want) {
        answers++;
        if (got != want) {
            fails(what + " is " + got + ", due is " + want);
        }
    }

    static void due(String what, boolean got, boolean want) {
        answers++;
        if (got != want) {
            fails(what + " is " + got + ", due is " + want);
        }
    }

    static void due(String what, String got, String want) {
        answers++;
        if (!got.equals(want)) {
            fails(what + " is " + got + ", due is " + want);
        }
    }

    static void dueRow(String what, LockLetters x, long... want) {
        due(what + ": the ROW", rowOf(x), rowOf(want));
    }

    static void dueLevels(String what, LockLetters x, long... want) {
        due(what + ": LEVELS", levelsOf(x), rowOf(want));
    }

    static String rowOf(LockLetters x) {
        long[] numbers = new long[x.count(11)];
        for (int i = 0; i < numbers.length; i++) {
            numbers[i] = x.row(i);
        }
        return rowOf(numbers);
    }

    static String levelsOf(LockLetters x) {
        long[] levels = new long[x.count(0)];
        for (int i = 0; i < levels.length; i++) {
            levels[i] = x.basin(i, 0);
        }
        return rowOf(levels);
    }

    private static String rowOf(long[] numbers) {
        StringBuilder s = new StringBuilder("[");
        for (long number : numbers) {
            s.append(s.length() > 1 ? " " : "").append(number);
        }
        return s.append("]").toString();
    }

    /** How the town is, but for the ROW: in few calls, for an object has 512 of them. */
    static String all(LockLetters x) {
        StringBuilder s = new StringBuilder();
        int basins = x.count(0);
        int sluices = x.count(1);
        for (int what = 2; what <= 12; what++) {
            s.append(what == 11 ? "" : x.count(what) + " ");
        }
        for (int i = 0; i < basins; i++) {
            s.append('|').append(x.basin(i, 0)).append(x.basin(i, 1)).append(x.basin(i, 2));
        }
        for (int i = 0; i < sluices; i++) {
            s.append('/').append(x.sluice(i, 5));
        }
        return s.toString();
    }

    static String allAndRow(LockLetters x) {
        return all(x) + rowOf(x);
    }

    static LockLetters say(LockLetters x, String text) {
        x.end(0);
        for (int i = 0; i < text.length(); i += 4) {
            int v = 0;
            for (int j = i; j < i + 4; j++) {
                v = v << 8 | (j < text.length() ? text.charAt(j) : 0);
            }
            x.sign(v);
        }
        x.end(text.length());
        return x;
    }

    /** A town in which the ROW tells 1 by 10, so that it is seen whether a call tells another one. */
    static LockLetters town(String basins, String sluices) {
        LockLetters x = new LockLetters();
        if (say(x, basins).basins() < 0 || say(x, sluices).sluices() < 0) {
            throw new IllegalArgumentException(basins + " " + sluices);
        }
        x.spoils(1, 1, 1);
        return x;
    }

    static LockLetters town(String basins, String sluices, String rule) {
        return withRule(town(basins, sluices), rule);
    }

    static LockLetters withRule(LockLetters x, String rule) {
        if (say(x, rule).rule() != 0) {
            throw new IllegalArgumentException(rule);
        }
        return x;
    }

    static void dueUntold(String what, LockLetters x) {
        dueRow(what + " tells nothing", x, 1, 10);
    }

    static boolean noBasin(LockLetters x, int basin, int what) {
        try {
            x.basin(basin, what);
            return false;
        } catch (NoSuchElementException e) {
            return true;
        }
    }

    static boolean noSluice(LockLetters x, int sluice, int what) {
        try {
            x.sluice(sluice, what);
            return false;
        } catch (NoSuchElementException e) {
            return true;
        }
    }

    static boolean noRow(LockLetters x, int i) {
        try {
            x.row(i);
            return false;
        } catch (NoSuchElementException e) {
            return true;
        }
    }

    static String times(int n, String piece) {
        StringBuilder s = new StringBuilder();
        for (int i = 0; i < n; i++) {
            s.append(piece);
        }
        return s.toString();
    }

    static String put(String text, int p, char sign) {
        return text.substring(0, p) + sign + text.substring(p + 1);
    }

    /**
     * Water that goes by one every four hours, nine times into each of three basins: basin 3 has 7 first
     * behind 99 hours, if the rule is n=2.
     */
    static LockLetters slow(String rule) {
        return town("90.;09.;09.;07.", "23s;12s;01w", rule);
    }

    /** Water sent into basin 0 as 9 comes into basin 2 first at the tenth time: behind 40 hours, if the rule is n=3. */
    static LockLetters tenth(String rule) {
        return town("90.;09.;01.;09.", "32s;03w", rule);
    }

    /** LOST is 9999 and all is empty; it takes about 380 calls of the 512. */
    static LockLetters allLost() {
        LockLetters x = town("90!;90!;90!;90!;90!;90!", "");
        for (int i = 0; i < 185; i++) {
            x.sheet(2, 6, 9, 0);
            x.hours(9);
        }
        x.sheet(2, 3, 3, 0);
        x.hours(3);
        return x;
    }
}
