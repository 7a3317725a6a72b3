import java.util.NoSuchElementException;

/** For each promise of the document: ordinary inputs, its edges, and wrong inputs, worked out by hand. */
public final class PromisesTest {
    private static final String LOSING = "90.;05!;03.";
    private static int wrong = 0;
    private static int checked = 0;
    private static int promise = 0;

    public static void main(String[] args) {
        newObject();
        sign();
        end();
        basins();
        sluices();
        rule();
        ruleWorkedOut();
        basin();
        sluice();
        sheet();
        hours();
        hoursOfSiphons();
        pours();
        lets();
        boats();
        sticks();
        marks();
        night();
        undo();
        later();
        marked();
        round();
        still();
        busiest();
        high();
        table();
        quarters();
        learns();
        words();
        hears();
        drought();
        saw();
        forget();
        fits();
        looks();
        needs();
        reach();
        way();
        cut();
        ring();
        order();
        locks();
        spoils();
        rests();
        law();
        years();
        keep();
        again();
        count();
        row();
        refusedCallsChangeNothing();
        System.out.println("promises: " + checked + " answers, " + wrong + " wrong");
        if (wrong != 0) {
            System.exit(1);
        }
    }

    private static void due(String what, long got, long want) {
        checked++;
        if (got != want) {
            wrong++;
            System.out.println("promise " + promise + ": " + what + " is " + got + ", due is " + want);
        }
    }

    private static void due(String what, boolean got, boolean want) {
        due(what, got ? 1 : 0, want ? 1 : 0);
    }

    private static void dueRow(String what, LockLetters x, long... want) {
        due(what + ": numbers of the row", x.count(11), want.length);
        for (int i = 0; i < want.length && i < x.count(11); i++) {
            due(what + ": row(" + i + ")", x.row(i), want[i]);
        }
    }

    private static void dueLevels(String what, LockLetters x, int... want) {
        for (int i = 0; i < want.length; i++) {
            due(what + ": level of " + i, x.basin(i, 0), want[i]);
        }
    }

    private static LockLetters say(LockLetters x, String text) {
        x.end(0);
        for (int i = 0; i < text.length(); i += 4) {
            int v = 0;
            for (int j = i; j < i + 4; j++) {
                v = v << 8 | (j < text.length() ? text.charAt(j) : 0);
            }
            x.sign(v);
        }
        x.end(text.length());
        return x;
    }

    private static LockLetters town(String basins, String sluices) {
        LockLetters x = new LockLetters();
        if (say(x, basins).basins() < 0 || say(x, sluices).sluices() < 0) {
            throw new IllegalArgumentException(basins + " " + sluices);
        }
        // A row is there from the first, so that what a call tells must come in its stead.
        x.spoils(1, 1, 1);
        return x;
    }

    private static LockLetters losing() {
        return town(LOSING, "01g;12w");
    }

    private static LockLetters withRule(LockLetters x, String rule) {
        if (say(x, rule).rule() != 0) {
            throw new IllegalArgumentException(rule);
        }
        return x;
    }

    private static boolean noBasin(LockLetters x, int basin, int what) {
        try {
            x.basin(basin, what);
            return false;
        } catch (NoSuchElementException e) {
            return true;
        }
    }

    private static boolean noSluice(LockLetters x, int sluice, int what) {
        try {
            x.sluice(sluice, what);
            return false;
        } catch (NoSuchElementException e) {
            return true;
        }
    }

    private static boolean noRow(LockLetters x, int i) {
        try {
            x.row(i);
            return false;
        } catch (NoSuchElementException e) {
            return true;
        }
    }

    private static void newObject() {
        promise = 1;
        LockLetters x = new LockLetters();
        for (int what = 0; what <= 12; what++) {
            due("count(" + what + ")", x.count(what), 0);
        }
        due("basin(0, 0) throws", noBasin(x, 0, 0), true);
        due("sluice(0, 0) throws", noSluice(x, 0, 0), true);
        due("row(0) throws", noRow(x, 0), true);
        due("NONE", LockLetters.NONE, -1);
        due("again(0)", x.again(0), false);
        due("undo()", x.undo(), -1);
    }

    private static void sign() {
        promise = 2;
        LockLetters x = new LockLetters();
        due("sign", x.sign(0x39302E3B), 4);
        due("sign", x.sign(0x31322100), 8);
        x.end(7);
        due("the highest byte comes first", x.basins(), 2);
        dueLevels("two basins", x, 9, 1);
        due("mark", x.basin(1, 1), 2);
        due("leaking", x.basin(1, 2), 1);
        for (int i = 1; i <= 20; i++) {
            due("sign " + i, x.sign(-1), 4 * i);
        }
        due("more than 80", x.sign(0), -1);
        due("count(12)", x.count(12), 80);
        x.end(77);
        due("81 would be too many", x.sign(0), -1);
        due("count(12)", x.count(12), 77);
        x.end(76);
        due("80 are not", x.sign(0), 80);
        due("a sign of 255 can't stand", x.basins(), -1);
    }

    private static void end() {
        promise = 3;
        LockLetters x = new LockLetters();
        due("end(0) of none", x.end(0), true);
        due("end(1) of none", x.end(1), false);
        x.sign(0x31312E3B);
        due("end(5)", x.end(5), false);
        due("end(-1)", x.end(-1), false);
        due("end(MIN)", x.end(Integer.MIN_VALUE), false);
        due("count(12)", x.count(12), 4);
        due("end(4)", x.end(4), true);
        due("end(3)", x.end(3), true);
        due("count(12)", x.count(12), 3);
        due("end(4) now", x.end(4), false);
        due("basins()", x.basins(), 1);
        due("a text that was read is empty", x.count(12), 0);
    }

    private static void basins() {
        promise = 4;
        LockLetters x = new LockLetters();
        due("an empty one", x.basins(), 0);
        String[] texts = {"x", "1", "1x", "11", "11x", "11..", "11.;", "11.;x", "11.;1", "11.,11.", ";", "11.;;", "11.;11.;a"};
        int[] places = {0, 1, 1, 2, 2, 3, 4, 4, 5, 3, 0, 4, 8};
        for (int i = 0; i < texts.length; i++) {
            due(texts[i], say(x, texts[i]).basins(), -1 - places[i]);
            due("nothing comes of " + texts[i], x.count(0), 0);
            due("the text is empty behind " + texts[i], x.count(12), 0);
        }
        String six = "11.;22!;33.;44!;55.;66!";
        due("six and ;", say(x, six + ";").basins(), -24);
        due("six and more", say(x, six + ";77.").basins(), -24);
        due("23 signs that are wrong earlier", say(x, "11.;22!;33.;44?;55.;66!;77.").basins(), -15);
        due("a wrong sign at 23 itself", say(x, six + "x").basins(), -24);
        due("six", say(x, six).basins(), 6);
        due("count(0)", x.count(0), 6);
        dueLevels("six", x, 1, 2, 3, 4, 5, 6);
        due("no room", say(x, "11.").basins(), -1);
        due("an empty one", x.basins(), 0);
        LockLetters y = town("11.;22.;33.;44.", "01g");
        due("room for two of three", say(y, "11.;11.;11.").basins(), -9);
        due("room for two and ;", say(y, "11.;11.;").basins(), -9);
        due("none came", y.count(0), 4);
        due("one more", say(y, "98!").basins(), 1);
        due("it is behind the others", y.basin(4, 0) * 100 + y.basin(4, 1) * 10 + y.basin(4, 2), 981);
        due("sluices are still there", y.count(1), 1);
        due("one more of two", say(y, "00.;00.").basins(), -5);
    }

    private static void sluices() {
        promise = 5;
        LockLetters x = new LockLetters();
        due("an empty one", x.sluices(), 0);
        due("no basins", say(x, "01g").sluices(), -1);
        say(x, "43.;00.;90.").basins();
        String[] texts = {"x", "3", "0", "00", "03", "0g", "01", "01x", "01g;", "01g0", "01g;1", "01g;11g", "01g;10w;2", "01g;31g", "01.", "01g,"};
        int[] places = {0, 0, 1, 1, 1, 1, 2, 2, 4, 3, 5, 5, 9, 4, 2, 3};
        for (int i = 0; i < texts.length; i++) {
            due(texts[i], say(x, texts[i]).sluices(), -1 - places[i]);
            due("nothing comes of " + texts[i], x.count(1), 0);
            due("the text is empty behind " + texts[i], x.count(12), 0);
        }
        String eight = "01g;12w;20s;10g;21w;02s;01w;12s";
        due("eight and ;", say(x, eight + ";").sluices(), -32);
        due("eight and more", say(x, eight + ";01g").sluices(), -32);
        due("wrong earlier", say(x, "01g;12w;20s;10g;21w;02s;01w;11s;01g").sluices(), -30);
        due("seven", say(x, "01g;12w;20s;10g;21w;02s;01w").sluices(), 7);
        due("room for one of two", say(x, "12s;01g").sluices(), -5);
        due("one more", say(x, "12s").sluices(), 1);
        due("count(1)", x.count(1), 8);
        due("no room", say(x, "01g").sluices(), -1);
        due("the eighth", x.sluice(7, 0) * 100 + x.sluice(7, 1) * 10 + x.sluice(7, 2), 122);
        due("not on", x.sluice(7, 3), 0);
        due("not stuck", x.sluice(7, 4), 0);
        LockLetters y = new LockLetters();
        say(y, "11.").basins();
        due("one basin has no other", say(y, "00g").sluices(), -2);
        due("one basin, another digit", say(y, "01g").sluices(), -2);
    }

    private static void rule() {
        promise = 6;
        LockLetters x = town("53.;07.", "01g");
        String[] texts = {"z", "a+", "a<b<m", "(a", "((((((a", "1000", "a b", ")", "a)", "()", "(a)b", "a1", "1a", "12(", "a*/b", "+a",
            "a<", "<a", "a<b=1", "(a<b)<m<k", "((((a)))))", "-", "a--", "a+1234", "(a<b<m)", "A", "a<b+m>1", "((((a+((", "a;", "(1)2", "1+a2", "1-(1)2"};
        int[] places = {0, 2, 3, 2, 4, 3, 1, 0, 1, 1, 3, 1, 1, 2, 2, 0,
            2, 0, 3, 7, 9, 1, 3, 5, 4, 0, 5, 6, 1, 3, 3, 5};
        for (int i = 0; i < texts.length; i++) {
            due(texts[i], say(x, texts[i]).rule(), -1 - places[i]);
            due("the text is empty behind " + texts[i], x.count(12), 0);
            due("the rule is as it was behind " + texts[i], x.sluice(0, 5), 2);
        }
        String ones = "1+1+1+1+1+1+1+1+1+1+1+1+1+1+1+1+1+1+1+1";
        due("39 signs", say(x, ones).rule(), 0);
        due("20, put to 5", x.sluice(0, 5), 5);
        due("40 signs that end too early", say(x, ones + "+").rule(), -41);
        due("41 signs", say(x, ones + "+1").rule(), -41);
        due("40 signs", say(x, "-" + ones).rule(), 0);
        due("18, put to 5", x.sluice(0, 5), 5);
        due("41 signs, whole at 40", say(x, "-" + ones + "0").rule(), -41);
        due("41 signs, open", say(x, "((" + ones).rule(), -41);
        due("wrong earlier", say(x, "1+1+1z" + ones).rule(), -6);
        due("an empty one", x.rule(), 0);
        due("none is as at first", x.sluice(0, 5), 2);
        due("0", say(x, "0").rule(), 0);
        due("no flow", x.sluice(0, 5), 0);
    }

    private static void ruleWorkedOut() {
        promise = 6;
        LockLetters x = town("53.;07.;08.", "01g;02s");
        String[] texts = {"a", "b", "m", "k-3", "s", "t", "n", "7/2", "-7/2+5", "5-2-1", "2+3*1", "(1+1)*2", "8/2/2", "a/0+2", "a>4", "a<4", "a=5",
            "--3", "-(-3)", "3--1", "2*-1+5", "1+(a>b)", "(a>b)=(m>b)", "999", "-1", "999*999*999*999", "-999*999*999*999", "1+1=2", "3-1*2", "a-b>4", "b-a<0-4",
            "a<5", "a>5", "((((4))))", "007-3", "12/5*2", "2*5/4", "---1+3", "-a+7", "a*(b=0)-m"};
        int[] flows = {5, 0, 3, 4, 0, 0, 0, 3, 2, 2, 5, 4, 2, 2, 1, 0, 1,
            3, 3, 4, 3, 2, 1, 5, 0, 0, 5, 1, 1, 1, 1,
            0, 0, 4, 4, 4, 2, 2, 2, 2};
        for (int i = 0; i < texts.length; i++) {
            due(texts[i], withRule(x, texts[i]).sluice(0, 5), flows[i]);
        }
        due("s of the second", withRule(x, "s").sluice(1, 5), 1);
        due("t of a siphon", withRule(x, "t").sluice(1, 5), 2);
        due("k of the second", withRule(x, "k-5").sluice(1, 5), 3);
        withRule(x, "0");
        x.hours(3);
        due("n in hour 3", withRule(x, "n").sluice(0, 5), 3);
        withRule(x, "0");
        x.hours(3);
        due("n in hour 6", withRule(x, "n").sluice(0, 5), 2);
        LockLetters full = town("90.;70.", "01g");
        due("no more than there is room for", withRule(full, "9").sluice(0, 5), 2);
    }

    private static void basin() {
        promise = 7;
        LockLetters x = town("90.;05!;03.", "01g;12w;20s;01s");
        int[][] want = {{9, 0, 0, 9, 4}, {0, 5, 1, 2, 9}, {0, 3, 0, 4, 2}};
        for (int i = 0; i < 3; i++) {
            for (int what = 0; what < 5; what++) {
                due("basin(" + i + ", " + what + ")", x.basin(i, what), want[i][what]);
            }
        }
        int[][] none = {{3, 0}, {-1, 0}, {0, 5}, {0, -1}, {6, 0}, {Integer.MAX_VALUE, 0}, {Integer.MIN_VALUE, 0}, {0, Integer.MIN_VALUE}};
        for (int[] w : none) {
            due("basin(" + w[0] + ", " + w[1] + ") throws", noBasin(x, w[0], w[1]), true);
        }
    }

    private static void sluice() {
        promise = 8;
        LockLetters x = town("90.;05!;03.", "01g;12w;20s;01s");
        x.hours(1);
        x.sticks(1);
        int[][] want = {{0, 1, 0, 0, 0}, {1, 2, 1, 0, 1}, {2, 0, 2, 0, 0}, {0, 1, 2, 1, 0}};
        for (int i = 0; i < 4; i++) {
            for (int what = 0; what < 5; what++) {
                due("sluice(" + i + ", " + what + ")", x.sluice(i, what), want[i][what]);
            }
        }
        int[][] none = {{4, 0}, {-1, 0}, {0, 6}, {0, -1}, {8, 0}, {Integer.MAX_VALUE, 5}, {Integer.MIN_VALUE, 5}};
        for (int[] w : none) {
            due("sluice(" + w[0] + ", " + w[1] + ") throws", noSluice(x, w[0], w[1]), true);
        }
        LockLetters y = town("15.;30.", "01g;10w;01w");
        due("a flow though it is not open", y.sluice(0, 5), 1);
        y.sticks(1);
        due("a flow though it is stuck", y.sluice(1, 5), 1);
        due("a flow though it is below its mark", y.sluice(2, 5), 1);
    }

    private static void sheet() {
        promise = 9;
        LockLetters x = town("11.;22.;33.", "01g");
        due("ints", x.sheet(2, 3, 5, 100), 23);
        dueLevels("ints", x, 5, 9, 9);
        due("bytes by their lowest bits", x.sheet(0, 2, 260, 0), 8);
        dueLevels("those behind have 0", x, 4, 4, 0);
        due("bytes with their sign", x.sheet(0, 3, 127, 1), 9);
        dueLevels("bytes", x, 9, 0, 0);
        due("shorts", x.sheet(1, 3, 65536 + 3, 2), 15);
        dueLevels("shorts", x, 3, 5, 7);
        due("shorts with their sign", x.sheet(1, 3, 32767, 1), 9);
        due("ints below 0", x.sheet(2, 3, -1, 1), 1);
        due("ints that wrap", x.sheet(2, 3, Integer.MAX_VALUE, 1), 9);
        due("more entries than basins", x.sheet(2, 6, 1, 1), 6);
        due("no entries", x.sheet(2, 0, 7, 7), 0);
        dueLevels("no entries", x, 0, 0, 0);
        x.sheet(2, 3, 4, 0);
        due("n below 0", x.sheet(0, -1, 1, 1), -2);
        due("n below 0", x.sheet(2, Integer.MIN_VALUE, 1, 1), -2);
        due("n above 6", x.sheet(0, 7, 1, 1), -1);
        due("n above 6 of a missing one", x.sheet(3, 7, 1, 1), -1);
        due("another kind", x.sheet(4, 2, 1, 1), -1);
        due("another kind", x.sheet(-1, -1, 1, 1), -1);
        dueLevels("nothing changed", x, 4, 4, 4);
        due("missing", x.sheet(3, 2, 1, 1), -3);
        dueLevels("missing", x, 0, 0, 0);
        x.sheet(2, 3, 4, 0);
        due("missing, n below 0", x.sheet(3, -5, 1, 1), -3);
        dueLevels("missing", x, 0, 0, 0);
        due("a sheet can't be undone", x.count(10), 0);
    }

    private static void hours() {
        promise = 10;
        LockLetters x = losing();
        due("one", x.hours(1), 8);
        dueRow("one", x, 2, 1);
        dueLevels("one", x, 7, 1, 0);
        due("none", x.hours(0), 8);
        dueRow("none", x, 0, 0);
        due("two", x.hours(2), 6);
        dueRow("two", x, 3, 2);
        dueLevels("two", x, 4, 2, 0);
        due("61", x.hours(61), -1);
        due("-1", x.hours(-1), -1);
        dueRow("refused", x, 3, 2);
        due("hour", x.count(2), 3);
        due("lost", x.count(3), 3);
        due("60", x.hours(60), 0);
        dueRow("60", x, 4, 6);
        due("hour", x.count(2), 63);
        LockLetters y = town("90.;20.;31.", "01w;12w;20w");
        due("sluices by their numbers, each as all is then", y.hours(1), 14);
        dueLevels("9 2 3 by 2, 1, 1", y, 8, 3, 3);
        dueRow("9 2 3 by 2, 1, 1", y, 4, 0);
        LockLetters z = town("54.;45.;55.", "01w;12w;20w");
        z.hours(1);
        dueLevels("a weir opens above its mark alone", z, 4, 5, 5);
        LockLetters g = town("30.;30.;40.", "01g;02g;20g");
        g.hours(1);
        dueLevels("a gate opens if a is above b", g, 4, 3, 3);
        LockLetters s = town("90.;00.", "01g");
        s.sticks(0);
        s.hours(5);
        dueLevels("a stuck one does nothing", s, 9, 0);
        LockLetters lost = town("90!;90!;90!;90!;90!;90!", "");
        for (int i = 0; i < 185; i++) {
            lost.sheet(2, 6, 9, 0);
            lost.hours(9);
        }
        due("lost", lost.count(3), 9990);
        lost.sheet(2, 6, 9, 0);
        due("hours(10)", lost.hours(10), 0);
        dueRow("whole", lost, 0, 54);
        due("lost at most", lost.count(3), 9999);
    }

    private static void hoursOfSiphons() {
        promise = 10;
        LockLetters x = withRule(town("43.;00.", "01s"), "1");
        x.hours(1);
        due("on", x.count(6), 1);
        dueLevels("on", x, 3, 1);
        x.hours(2);
        dueLevels("below its mark it goes on", x, 1, 3);
        due("on", x.count(6), 1);
        x.hours(1);
        dueLevels("till it is 0", x, 0, 4);
        due("still on: 0 is asked in the next hour", x.count(6), 1);
        x.hours(1);
        due("not on", x.count(6), 0);
        x.pours(0, 2);
        x.hours(1);
        dueLevels("below its mark it does not start", x, 2, 4);
        x.pours(0, 1);
        x.sticks(0);
        x.hours(1);
        due("a stuck one is not on", x.count(6), 0);
        x.sticks(0);
        x.hours(1);
        dueLevels("at its mark it starts", x, 2, 5);
        x.sticks(0);
        x.lets(0, 2);
        x.hours(1);
        due("a stuck one stays on", x.count(6), 1);
        LockLetters y = withRule(town("00.;00.", "01s"), "1");
        y.hours(1);
        due("a mark of 0: on, then not, as a is 0", y.count(6), 0);
        y.pours(0, 1);
        y.hours(1);
        due("a mark of 0: on", y.count(6), 1);
        dueLevels("a mark of 0", y, 0, 1);
    }

    private static void pours() {
        promise = 11;
        LockLetters x = losing();
        due("9 into none", x.pours(2, 9), 9);
        due("above 9", x.pours(2, 1), -2);
        due("above 9", x.pours(0, 9), -2);
        due("1", x.pours(1, 1), 1);
        due("8 more", x.pours(1, 8), 9);
        int[][] none = {{3, 1}, {-1, 1}, {0, 0}, {0, 10}, {0, -1}, {6, 1}, {0, Integer.MAX_VALUE}, {Integer.MIN_VALUE, 1}};
        for (int[] w : none) {
            due("pours(" + w[0] + ", " + w[1] + ")", x.pours(w[0], w[1]), -1);
        }
        dueLevels("poured", x, 9, 9, 9);
        due("what can be undone", x.count(10), 3);
    }

    private static void lets() {
        promise = 12;
        LockLetters x = losing();
        due("4", x.lets(0, 4), 5);
        due("6 of 5", x.lets(0, 6), -2);
        due("5 of 5", x.lets(0, 5), 0);
        due("1 of 0", x.lets(0, 1), -2);
        x.sheet(2, 3, 9, 0);
        due("9 of 9", x.lets(2, 9), 0);
        due("1 of 9", x.lets(2, 1), -2);
        x.sheet(3, 0, 0, 0);
        int[][] none = {{3, 1}, {-1, 1}, {0, 0}, {0, 10}, {0, -1}, {6, 1}, {0, Integer.MIN_VALUE}};
        for (int[] w : none) {
            due("lets(" + w[0] + ", " + w[1] + ")", x.lets(w[0], w[1]), -1);
        }
        dueLevels("let out", x, 0, 0, 0);
        due("what can be undone", x.count(10), 3);
    }

    private static void boats() {
        promise = 13;
        LockLetters x = town("20.;80.;09.", "01g;12w;20g");
        due("one", x.boats(0), 9);
        dueLevels("one", x, 1, 9, 0);
        due("no room", x.boats(0), -2);
        due("none to go", x.boats(2), -2);
        x.sticks(1);
        due("stuck, and not open", x.boats(1), 1);
        dueLevels("stuck", x, 1, 8, 1);
        due("not open", x.boats(2), 2);
        due("none such", x.boats(3), -1);
        due("none such", x.boats(-1), -1);
        due("none such", x.boats(8), -1);
        due("what can be undone", x.count(10), 4);
    }

    private static void sticks() {
        promise = 14;
        LockLetters x = town("20.;80.;09.", "01g;12w;20g");
        due("the third", x.sticks(2), 4);
        due("the first, too", x.sticks(0), 5);
        due("the third no more", x.sticks(2), 1);
        due("none such", x.sticks(3), -1);
        due("none such", x.sticks(-1), -1);
        due("count(7)", x.count(7), 1);
        due("no more at all", x.sticks(0), 0);
        due("what can be undone", x.count(10), 4);
    }

    private static void marks() {
        promise = 15;
        LockLetters x = losing();
        due("7 was 3", x.marks(2, 7), 13);
        due("it is so", x.marks(2, 7), -2);
        due("0 was 7", x.marks(2, 0), 17);
        due("9 was 0", x.marks(2, 9), 10);
        int[][] none = {{3, 1}, {-1, 1}, {0, 10}, {0, -1}, {6, 1}};
        for (int[] w : none) {
            due("marks(" + w[0] + ", " + w[1] + ")", x.marks(w[0], w[1]), -1);
        }
        due("mark", x.basin(2, 1), 9);
        due("what can be undone", x.count(10), 3);
    }

    private static void night() {
        promise = 16;
        LockLetters x = losing();
        due("till one can't be", say(x, "n1p29l24b0k0m27l29p01").night(), 6);
        dueRow("till one can't be", x, 1, 13);
        dueLevels("till one can't be", x, 6, 2, 5);
        due("the text is empty", x.count(12), 0);
        due("as one", x.count(10), 1);
        due("undo()", x.undo(), 0);
        dueLevels("undone", x, 9, 0, 0);
        due("stuck no more", x.count(7), 0);
        due("mark as it was", x.basin(2, 1), 3);
        due("an empty one", x.night(), 0);
        dueRow("an empty one", x, 0, 9);
        due("all can be", say(x, "n0l01b1").night(), 2);
        dueRow("none to go", x, 1, 8);
        x.undo();
        due("all can be", say(x, "n2k1k1").night(), 3);
        dueRow("all can be", x, 0, 7);
        x.undo();
        due("the first can't be", say(x, "b9n1").night(), 0);
        dueRow("the first can't be", x, 1, 9);
        due("nothing to be undone", x.count(10), 0);
        due("hours() of 0 is an act that was done", say(x, "n0").night(), 1);
        due("so it can be undone", x.undo(), 0);
        String[] texts = {"x", "n", "p0", "p00", "l0", "l00", "m0", "n1;", "b", "k", "bx", "p0x", "m0x", "m00m", "N1", "n1n", "p11l", "0", "n1p", "mm"};
        int[] places = {0, 1, 2, 2, 2, 2, 2, 2, 1, 1, 1, 2, 2, 4, 0, 3, 4, 0, 3, 1};
        for (int i = 0; i < texts.length; i++) {
            due(texts[i], say(x, texts[i]).night(), -1 - places[i]);
            due("the text is empty behind " + texts[i], x.count(12), 0);
        }
        dueRow("nothing was told", x, 0, 9);
        due("nothing is done", say(x, "n1l02z").night(), -6);
        due("nothing is done", x.count(2) * 100 + x.count(4), 9);
        StringBuilder sixty = new StringBuilder();
        for (int i = 0; i < 30; i++) {
            sixty.append("k1");
        }
        due("60 signs", say(x, sixty.toString()).night(), 30);
        due("61 signs", say(x, sixty + "k").night(), -61);
        due("62 signs", say(x, sixty + "k1").night(), -61);
        due("60 that end too early", say(x, sixty.substring(0, 57) + "0m1").night(), -61);
        due("wrong earlier", say(x, sixty.substring(0, 40) + "z" + sixty).night(), -41);
    }

    private static void undo() {
        promise = 17;
        LockLetters x = town("43.;00!", "01s");
        x.hours(1);
        x.pours(0, 5);
        x.lets(0, 1);
        x.boats(0);
        x.sticks(0);
        x.marks(1, 9);
        x.hours(0);
        x.pours(0, 9);
        x.boats(7);
        x.marks(1, 9);
        say(x, "l19").night();
        due("such as were done", x.count(10), 6);
        due("marks", x.undo(), 5);
        due("mark", x.basin(1, 1), 0);
        due("sticks", x.undo(), 4);
        due("stuck", x.count(7), 0);
        due("boats", x.undo(), 3);
        dueLevels("boats", x, 7, 0);
        due("lets", x.undo(), 2);
        dueLevels("lets", x, 8, 0);
        due("pours", x.undo(), 1);
        dueLevels("pours", x, 3, 0);
        due("on", x.count(6), 1);
        due("hour", x.count(2), 1);
        due("lost", x.count(3), 1);
        due("hours", x.undo(), 0);
        due("on", x.count(6), 0);
        due("hour", x.count(2), 0);
        due("lost", x.count(3), 0);
        dueLevels("hours", x, 4, 0);
        due("none", x.undo(), -1);
        for (int i = 0; i < 15; i++) {
            x.hours(1);
        }
        due("12 are kept", x.count(10), 12);
        for (int i = 11; i >= 0; i--) {
            due("undo", x.undo(), i);
        }
        due("the latest ones", x.count(2), 3);
        due("none", x.undo(), -1);
        x.hours(1);
        x.basins();
        x.sluices();
        say(x, "z").basins();
        say(x, "z").sluices();
        x.again(0);
        due("these do not forget", x.count(10), 1);
        x.keep(0);
        x.again(0);
        due("again() does", x.count(10), 0);
        x.hours(1);
        say(x, "10g").sluices();
        due("sluices() does", x.undo(), -1);
        x.hours(1);
        say(x, "11.").basins();
        due("basins() does", x.undo(), -1);
        x.pours(1, 2);
        x.sheet(2, 3, 7, 0);
        x.undo();
        dueLevels("a sheet goes with what was done ahead of it", x, 0, 0, 1);
    }

    private static void later() {
        promise = 18;
        LockLetters x = losing();
        due("in 3", x.later(0, 3), 4);
        dueRow("in 3", x, 6, 0);
        due("in 0", x.later(0, 0), 9);
        dueRow("in 0", x, 9, 0);
        due("in 99", x.later(1, 99), 0);
        dueRow("in 99", x, 0, 0);
        due("100", x.later(0, 100), -1);
        due("-1", x.later(0, -1), -1);
        due("none such", x.later(3, 0), -1);
        due("none such", x.later(-1, 0), -1);
        dueLevels("nothing changes", x, 9, 0, 0);
        due("hour", x.count(2), 0);
        due("lost", x.count(3), 0);
        LockLetters y = town("43.;00.", "01s");
        due("a siphon", y.later(1, 1), 1);
        dueRow("a siphon", y, 4, 1);
        due("it is not on", y.count(6), 0);
    }

    private static void marked() {
        promise = 19;
        LockLetters x = town("03.;90.", "10g");
        due("first", x.marked(0), 2);
        dueRow("first", x, 98);
        due("it is", x.marked(1), 0);
        dueRow("it is", x, 100);
        x.marks(1, 6);
        due("no more later", x.marked(1), 0);
        dueRow("no more later", x, 2);
        x.marks(0, 9);
        due("in none", x.marked(0), -2);
        due("none such", x.marked(2), -1);
        due("none such", x.marked(-1), -1);
        dueRow("nothing was told", x, 2);
        LockLetters y = withRule(town("90.;09!;09.", "02w"), "n=3");
        due("at the ninth time", y.marked(2), 36);
        dueRow("at the ninth time", y, 64);
    }

    private static void round() {
        promise = 20;
        LockLetters x = new LockLetters();
        due("nothing", x.round(), 4);
        dueRow("nothing", x, 0, 1);
        x = losing();
        due("lost", x.round(), 13);
        dueRow("lost", x, 9, 1);
        x = town("90.;00.", "01w;10w");
        due("there and back", x.round(), 7);
        dueRow("there and back", x, 3, 1);
        x = withRule(town("90.;00.", "01w;10w"), "(n=0)*(s=0)+(n=2)*(s=1)");
        due("by the hour", x.round(), 4);
        dueRow("by the hour", x, 0, 1);
        x = slow();
        due("behind none", x.round(), -2);
        dueRow("nothing was told", x, 1, 10);
        x = withRule(town("90.;90.;60.;00!", "01w;12w;23w"), "n=2");
        due("99", x.round(), 99);
        dueRow("99", x, 95, 1);
        due("behind 100", withRule(x, "n=3").round(), -2);
    }

    private static LockLetters slow() {
        return withRule(town("90.;90.;90.;90.;90.;00!", "01w;12w;23w;34w;45w"), "n=0");
    }

    private static void still() {
        promise = 21;
        LockLetters x = losing();
        due("lost", x.still(), 9);
        dueRow("lost", x, 0);
        x = town("90.;00.", "01g");
        due("level", x.still(), 3);
        dueRow("level", x, 9);
        x = town("90.;00.", "");
        due("nothing moves", x.still(), 0);
        dueRow("nothing moves", x, 9);
        x = withRule(town("90.;09.", "01w"), "n=3");
        due("at the ninth time", x.still(), 36);
        dueRow("at the ninth time", x, 9);
        x = slow();
        due("behind none", x.still(), -2);
        dueRow("nothing was told", x, 1, 10);
        x = withRule(town("90.;90.;60.;00!", "01w;12w;23w"), "n=3");
        due("96", x.still(), 96);
        dueRow("96", x, 0);
        x = withRule(town("90.;90.;70.;00!", "01w;12w;23w"), "n=0");
        due("97", x.still(), -2);
        x = withRule(town("90.;90.;30.;09!", "23w"), "n=0");
        due("the water that is left", x.still(), 9);
        dueRow("the water that is left", x, 18);
    }

    private static void busiest() {
        promise = 22;
        LockLetters x = losing();
        due("in 3", x.busiest(3), 0);
        dueRow("in 3", x, 5, 5);
        x = town("90.;90.;00.;00.", "02g;13g");
        due("of equal ones the first", x.busiest(1), 0);
        dueRow("of equal ones the first", x, 2, 4);
        due("asked again", x.busiest(1), 0);
        dueRow("asked again", x, 2, 4);
        x = town("20.;90.;00.;00.", "02g;13g");
        due("the second", x.busiest(99), 1);
        dueRow("the second", x, 5, 6);
        x = town("00.;00.", "01g");
        due("nothing goes", x.busiest(5), 0);
        dueRow("nothing goes", x, 0, 0);
        due("0", x.busiest(0), -1);
        due("100", x.busiest(100), -1);
        due("no sluices", town("11.", "").busiest(1), -2);
    }

    private static void high() {
        promise = 23;
        LockLetters x = town("50.;50.;09.", "02w;12w");
        due("in 0", x.high(0), 5);
        dueRow("in 0", x, 0, 0);
        due("in 2: the fewest hours, then the first", x.high(2), 5);
        dueRow("in 2", x, 0, 0);
        due("in 3", x.high(3), 7);
        dueRow("in 3", x, 2, 3);
        due("in 99", x.high(99), 9);
        dueRow("in 99", x, 2, 4);
        due("100", x.high(100), -1);
        due("-1", x.high(-1), -1);
        due("no basins", new LockLetters().high(3), -2);
        dueLevels("nothing changes", x, 5, 5, 0);
    }

    private static void table() {
        promise = 24;
        LockLetters x = losing();
        due("in 1", x.table(0, 1, 2, 1), 0);
        dueRow("in 1", x, 0, 0, 2, 2);
        due("in 2", x.table(0, 1, 2, 2), 12);
        dueRow("in 2", x, 0, 0, 3, 4);
        due("the other way", x.table(1, 0, 2, 2), 10);
        dueRow("the other way", x, 0, 3, 0, 4);
        due("in 0, of b", x.table(0, 1, 1, 0), 12);
        dueRow("in 0, of b", x, 0, 0, 9, 9);
        due("in 0, of a with a mark of 0", x.table(0, 1, 0, 0), 15);
        dueRow("in 0, of a", x, 0, 9, 0, 9);
        x.pours(2, 3);
        due("others as they are", x.table(0, 1, 2, 0), 15);
        dueRow("others as they are", x, 3, 3, 3, 3);
        due("in 40", x.table(0, 1, 2, 40), 15);
        int[][] none = {{0, 0, 1, 1}, {0, 1, 3, 1}, {0, 3, 1, 1}, {3, 0, 1, 1}, {0, 1, 2, 41}, {0, 1, 2, -1}, {-1, 0, 1, 1}, {0, -1, 1, 1}, {0, 1, -1, 1}};
        for (int[] w : none) {
            due("table(" + w[0] + ", " + w[1] + ", " + w[2] + ", " + w[3] + ")", x.table(w[0], w[1], w[2], w[3]), -1);
        }
        dueLevels("nothing changes", x, 9, 0, 3);
    }

    private static void quarters() {
        promise = 25;
        LockLetters x = losing();
        due("12 in 2", x.quarters(12, 2), 2);
        dueRow("12 in 2", x, 0, 1, 2);
        due("14 in 2", x.quarters(14, 2), 1);
        dueRow("14 in 2", x, 1, 2, 2);
        due("6 in 2", x.quarters(6, 2), 0);
        dueRow("nothing without", x);
        for (int n = 0; n <= 40; n += 8) {
            for (int t = 0; t <= 15; t++) {
                LockLetters y = town("43.;25!;18.;66.", "01g;12w;23s;30g;02s");
                int found = 0;
                int least = -1;
                for (int three = 0; three < 64; three++) {
                    int a = three / 16;
                    int b = three / 4 % 4;
                    int c = three % 4;
                    if (a < b && y.table(a, b, c, n) == t) {
                        found++;
                        least = least < 0 ? three : least;
                    }
                }
                due("by table() " + t + " in " + n, y.quarters(t, n), found);
                if (found > 0) {
                    dueRow("by table()", y, least / 16, least / 4 % 4, least % 4);
                }
            }
        }
        due("no basins", new LockLetters().quarters(0, 0), 0);
        int[][] none = {{16, 1}, {-1, 1}, {0, 41}, {0, -1}};
        for (int[] w : none) {
            due("quarters(" + w[0] + ", " + w[1] + ")", x.quarters(w[0], w[1]), -1);
        }
    }

    private static void learns() {
        promise = 26;
        LockLetters x = losing();
        due("12", x.learns(0, 1, 2, 12), 2);
        dueRow("12", x, 39);
        due("0", x.learns(0, 1, 2, 0), 0);
        dueRow("0", x, 2);
        due("6", x.learns(0, 1, 2, 6), -2);
        dueRow("nothing was told", x, 2);
        for (int t = 0; t <= 15; t++) {
            LockLetters y = town("43.;25!;18.;66.", "01g;12w;23s;30g;02s");
            int first = -2;
            int times = 0;
            for (int n = 40; n >= 0; n--) {
                if (y.table(1, 3, 2, n) == t) {
                    first = n;
                    times++;
                }
            }
            due("by table() " + t, y.learns(1, 3, 2, t), first);
            if (first >= 0) {
                dueRow("by table()", y, times);
            }
        }
        int[][] none = {{0, 1, 2, 16}, {0, 1, 2, -1}, {0, 0, 2, 1}, {3, 1, 2, 1}, {0, 3, 2, 1}, {0, 1, 3, 1}, {0, 1, -1, 1}};
        for (int[] w : none) {
            due("learns(" + w[0] + ", " + w[1] + ", " + w[2] + ", " + w[3] + ")", x.learns(w[0], w[1], w[2], w[3]), -1);
        }
    }

    private static void words() {
        promise = 27;
        LockLetters x = losing();
        due("in 1", x.words(0, 1, 1), 2);
        dueRow("in 1", x, 0, 0, 0, 0, 0, 1, 1, 1, 1, 1);
        due("in 0", x.words(0, 1, 0), 1);
        dueRow("in 0", x, 0, 0, 0, 0, 0, 0, 0, 0, 0, 0);
        due("in 1, by a weir", x.words(1, 2, 1), 2);
        dueRow("in 1, by a weir", x, 0, 0, 0, 0, 2, 2, 2, 2, 2, 2);
        int[][] none = {{0, 0, 1}, {3, 0, 1}, {0, 3, 1}, {0, 1, 41}, {0, 1, -1}, {-1, 0, 1}, {0, -1, 1}};
        for (int[] w : none) {
            due("words(" + w[0] + ", " + w[1] + ", " + w[2] + ")", x.words(w[0], w[1], w[2]), -1);
        }
        dueLevels("nothing changes", x, 9, 0, 0);
    }

    private static void hears() {
        promise = 28;
        LockLetters x = losing();
        due("in 1", x.hears(0, 1), 1);
        dueRow("in 1", x, 2);
        due("in 1, another", x.hears(1, 1), 0);
        dueRow("in 1, another", x, 3);
        due("nobody hears: the first", x.hears(2, 3), 0);
        dueRow("nobody hears", x, 1);
        LockLetters y = town("43.;25!;18.;66.", "01g;12w;23s;30g;02s");
        for (int a = 0; a < 4; a++) {
            for (int n = 0; n <= 40; n += 5) {
                int best = -1;
                int most = 0;
                for (int b = 0; b < 4; b++) {
                    if (y.words(a, b, n) > most) {
                        most = y.words(a, b, n);
                        best = b;
                    }
                }
                due("by words() of " + a + " in " + n, y.hears(a, n), best);
                dueRow("by words()", y, most);
            }
        }
        due("no other one", town("11.", "").hears(0, 1), -2);
        due("none such", x.hears(3, 1), -1);
        due("none such", x.hears(-1, 1), -1);
        due("41", x.hears(0, 41), -1);
        due("-1", x.hears(0, -1), -1);
    }

    private static void drought() {
        promise = 29;
        LockLetters x = losing();
        due("in 2", x.drought(1, 2, 2), 7);
        dueRow("in 2", x, 3);
        due("by none", x.drought(0, 1, 1), -2);
        dueRow("nothing was told", x, 3);
        due("a mark of 0", x.drought(0, 0, 0), 0);
        dueRow("a mark of 0", x, 10);
        due("in 40", x.drought(1, 2, 40), 7);
        dueRow("in 40", x, 3);
        due("itself", x.drought(1, 1, 0), 5);
        dueRow("itself", x, 5);
        int[][] none = {{3, 0, 0}, {0, 3, 0}, {-1, 0, 0}, {0, -1, 0}, {0, 1, 41}, {0, 1, -1}};
        for (int[] w : none) {
            due("drought(" + w[0] + ", " + w[1] + ", " + w[2] + ")", x.drought(w[0], w[1], w[2]), -1);
        }
    }

    private static void saw() {
        promise = 30;
        LockLetters x = losing();
        int[][] none = {{3, 0, 0}, {-1, 0, 0}, {0, 21, 0}, {0, -1, 0}, {0, 0, 10}, {0, 0, -1}};
        for (int[] w : none) {
            due("saw(" + w[0] + ", " + w[1] + ", " + w[2] + ")", x.saw(w[0], w[1], w[2]), -1);
        }
        due("how many such", x.saw(2, 0, 0), 1);
        for (int i = 2; i <= 10; i++) {
            due("how many such", x.saw(0, 20, 9), i);
        }
        due("10", x.saw(0, 20, 9), -1);
        due("count(9)", x.count(9), 10);
    }

    private static void forget() {
        promise = 31;
        LockLetters x = losing();
        due("none", x.forget(), 0);
        x.saw(0, 1, 9);
        x.saw(0, 2, 9);
        due("two", x.forget(), 2);
        due("count(9)", x.count(9), 0);
        x.fits();
        dueRow("all fit again", x, 2, 1);
    }

    private static void fits() {
        promise = 32;
        LockLetters x = losing();
        due("nothing was seen", x.fits(), 3);
        dueRow("nothing was seen", x, 2, 1);
        x.saw(1, 1, 1);
        due("the first is not stuck", x.fits(), 2);
        dueRow("the first is not stuck", x, 1, 1);
        x.saw(0, 1, 9);
        due("none fits", x.fits(), 0);
        dueRow("none fits", x, 0, 0);
        x.forget();
        x.saw(1, 1, 0);
        x.saw(0, 20, 9);
        due("the first is stuck", x.fits(), 1);
        dueRow("the first is stuck", x, 1, 0);
        x.sticks(0);
        due("it is stuck now", x.fits(), 2);
        dueRow("it is stuck now", x, 1, 1);
        due("nothing changes", x.count(7), 1);
        LockLetters y = new LockLetters();
        due("no sluices", y.fits(), 0);
        dueRow("no sluices", y, 0, 1);
    }

    private static void looks() {
        promise = 33;
        LockLetters x = losing();
        due("two", x.looks(), 1);
        dueRow("two", x, 1);
        x.saw(1, 1, 1);
        due("one", x.looks(), 0);
        dueRow("one", x, 1);
        x.saw(0, 1, 9);
        due("none fits", x.looks(), -2);
        dueRow("nothing was told", x, 1);
        due("no basins", new LockLetters().looks(), -2);
        LockLetters y = town("00.;90.;00.;00.", "12g;12g;03g;30w");
        due("1 and 2 differ by none of them", y.looks(), 22);
        dueRow("1 and 2 differ by none of them", y, 2);
        LockLetters z = town("10.;90.;00.", "20g;02s");
        due("by the siphon alone", z.looks(), 1);
        dueRow("by the siphon alone", z, 1);
        LockLetters w = town("00.;00.;00.", "01g;12g;20g");
        due("no look helps", w.looks(), 0);
        dueRow("no look helps", w, 3);
    }

    private static void needs() {
        promise = 34;
        LockLetters x = losing();
        due("in 1", x.needs(1, 1), 1);
        dueRow("in 1", x, 1);
        due("in 0", x.needs(1, 0), 0);
        dueRow("in 0", x, 0);
        due("the third", x.needs(2, 40), 0);
        for (int c = 0; c < 4; c++) {
            LockLetters y = town("93.;25!;18.;66.", "01g;12w;23s;30g;02s");
            y.sticks(1);
            for (int n = 0; n <= 40; n += 5) {
                int plain = y.later(c, n);
                int bits = 0;
                for (int s = 0; s < 5; s++) {
                    if (s != 1) {
                        y.sticks(s);
                        bits |= y.later(c, n) != plain ? 1 << s : 0;
                        y.undo();
                    }
                }
                due("by sticks() of " + c + " in " + n, y.needs(c, n), bits);
                dueRow("by sticks()", y, Integer.bitCount(bits));
            }
        }
        due("none such", x.needs(3, 1), -1);
        due("none such", x.needs(-1, 1), -1);
        due("41", x.needs(0, 41), -1);
        due("-1", x.needs(0, -1), -1);
    }

    private static void reach() {
        promise = 35;
        LockLetters x = town("00.;00.;00.;00.;00.;00.", "45g;34w;23s;12g;01g");
        due("all", x.reach(0), 63);
        dueRow("all", x, 6);
        due("some", x.reach(3), 56);
        dueRow("some", x, 3);
        due("itself", x.reach(5), 32);
        dueRow("itself", x, 1);
        x.sticks(2);
        due("stuck", x.reach(0), 7);
        dueRow("stuck", x, 3);
        due("none such", x.reach(6), -1);
        due("none such", x.reach(-1), -1);
    }

    private static void way() {
        promise = 36;
        LockLetters x = town("00.;00.;00.;00.;00.;00.", "01g;13g;02g;23g;31g;03w;12s;34g");
        due("straight", x.way(0, 3), 1);
        dueRow("straight", x, 5);
        x.sticks(5);
        due("two, the least row", x.way(0, 3), 2);
        dueRow("two, the least row", x, 0, 1);
        due("three", x.way(0, 4), 3);
        dueRow("three", x, 0, 1, 7);
        x.sticks(0);
        due("round about", x.way(0, 1), 3);
        dueRow("round about", x, 2, 3, 4);
        due("no way", x.way(0, 5), -2);
        due("no way back", x.way(4, 0), -2);
        dueRow("nothing was told", x, 2, 3, 4);
        due("like ones", x.way(5, 5), 0);
        dueRow("like ones", x);
        LockLetters y = losing();
        due("the first alone", y.way(0, 1), 1);
        dueRow("the first alone", y, 0);
        due("none such", x.way(0, 6), -1);
        due("none such", x.way(6, 0), -1);
        due("none such", x.way(-1, -1), -1);
    }

    private static void cut() {
        promise = 37;
        LockLetters x = town("00.;00.;00.;00.", "01g;01w;12g;02s;23g;13g");
        due("two of three", x.cut(0, 3), 2);
        dueRow("the least bits", x, 48);
        due("two ways", x.cut(0, 1), 2);
        dueRow("two ways", x, 3);
        due("0 to 2", x.cut(0, 2), 2);
        dueRow("0 to 2", x, 12);
        due("1 to 2", x.cut(1, 2), 1);
        dueRow("1 to 2", x, 4);
        x.sticks(3);
        due("one is stuck", x.cut(0, 2), 1);
        dueRow("one is stuck", x, 4);
        due("no way", x.cut(3, 0), 0);
        dueRow("no way", x, 0);
        due("like ones", x.cut(1, 1), -1);
        due("none such", x.cut(0, 4), -1);
        due("none such", x.cut(4, 0), -1);
        due("none such", x.cut(-1, 0), -1);
        LockLetters y = town("00.;00.;00.", "01g;12g");
        due("of as few the least", y.cut(0, 2), 1);
        dueRow("of as few the least", y, 1);
    }

    private static void ring() {
        promise = 38;
        LockLetters x = town("00.;00.;00.;00.", "01g;12g;20g;31w;13s;23g;32g");
        due("two", x.ring(), 2);
        dueRow("the least row", x, 3, 4);
        x.sticks(4);
        due("two others", x.ring(), 2);
        dueRow("two others", x, 5, 6);
        x.sticks(6);
        due("three", x.ring(), 3);
        dueRow("three", x, 0, 1, 2);
        x.sticks(0);
        due("three others, the least one first", x.ring(), 3);
        dueRow("three others, the least one first", x, 1, 5, 3);
        x.sticks(3);
        due("none", x.ring(), -2);
        dueRow("nothing was told", x, 1, 5, 3);
        due("no sluices", new LockLetters().ring(), -2);
        LockLetters y = town("00.;00.", "10g;01g;10w;01w");
        due("two of four", y.ring(), 2);
        dueRow("two of four", y, 0, 1);
    }

    private static void order() {
        promise = 39;
        LockLetters x = town("10.;00.;00.", "12g;01w");
        due("the second first", x.order(), 2);
        dueRow("the second first", x, 1, 0);
        x = town("20.;00.;00.", "01g;12g");
        due("as they are", x.order(), 2);
        dueRow("as they are", x, 0, 1);
        x = town("00.;00.;00.", "12g;01w;20s");
        due("none goes", x.order(), 0);
        dueRow("the least row", x, 0, 1, 2);
        x = town("90.;90.;00.", "01g;12w;12g");
        due("room is made", x.order(), 3);
        dueRow("room is made", x, 1, 0, 2);
        x = town("10.;00.;00.;00.;00.;00.", "45g;34g;23g;12g;01g;50g;01w;01w");
        x.sticks(4);
        due("six alone, backwards", x.order(), 6);
        dueRow("six alone, backwards", x, 4, 3, 2, 1, 0, 5);
        dueLevels("nothing changes", x, 1, 0, 0, 0, 0, 0);
        x = town("10.;00.;00.", "01g;02g;10w");
        due("there and back", x.order(), 3);
        dueRow("there and back", x, 0, 2, 1);
        x = new LockLetters();
        due("no sluices", x.order(), 0);
        dueRow("no sluices", x);
    }

    private static void locks() {
        promise = 40;
        LockLetters x = new LockLetters();
        due("0, 0", x.locks(0, 0), 0);
        dueRow("0, 0", x);
        due("1, 1", x.locks(1, 1), 1);
        dueRow("1, 1", x, 1, 1);
        due("0, 2", x.locks(0, 2), 1);
        dueRow("0, 2", x, 0, 2);
        due("2, 0", x.locks(2, 0), 1);
        dueRow("2, 0", x, 2, 0);
        due("1, 2", x.locks(1, 2), 1);
        dueRow("1, 2: to 1, 0 ahead of 0, 1", x, 0, 2);
        due("2, 2", x.locks(2, 2), 0);
        dueRow("2, 2", x);
        due("3, 1", x.locks(3, 1), 0);
        due("1, 0", x.locks(1, 0), 0);
        // Two go by each move, and a move is there unless one stair is 0 and the other below 2:
        // with an even sum the moves are just half of it, with an odd one half of what is less 1.
        for (int a = 0; a <= 20; a++) {
            for (int b = 0; b <= 20; b++) {
                due(a + ", " + b, x.locks(a, b), (a + b) / 2 % 2);
            }
        }
        due("21", x.locks(21, 0), -1);
        due("21", x.locks(0, 21), -1);
        due("-1", x.locks(-1, 0), -1);
        due("-1", x.locks(0, -1), -1);
    }

    private static void spoils() {
        promise = 41;
        LockLetters x = new LockLetters();
        long[][] want = {{1, 1, 3, 3, 10}, {2, 1, 5, 1, 4}, {3, 2, 5, 1, 4}, {1, 2, 5, 0, 1}, {4, 2, 5, 3, 16}, {1, 1, 10, 1, 1}, {12, 12, 10, 1, 1},
            {2, 1, 10, 0, 1}, {1, 1, 0, 0, 1}, {12, 1, 0, 0, 1}, {12, 12, 1, 1, 1000000000000L}, {12, 6, 5, 231, 2048}, {3, 1, 2, 16, 125},
            {12, 1, 1, 31381059609L, 1000000000000L}, {12, 6, 3, 462L * 729 * 117649, 1000000000000L}};
        for (long[] w : want) {
            String what = "spoils(" + w[0] + ", " + w[1] + ", " + w[2] + ")";
            due(what, x.spoils((int) w[0], (int) w[1], (int) w[2]), 0);
            long g = gcd(w[3], w[4]);
            dueRow(what, x, w[3] / g, w[4] / g);
        }
        int[][] none = {{13, 1, 1}, {0, 1, 1}, {1, 0, 1}, {1, 13, 1}, {1, 1, 11}, {1, 1, -1}, {-1, 1, 1}};
        for (int[] w : none) {
            due("spoils(" + w[0] + ", " + w[1] + ", " + w[2] + ")", x.spoils(w[0], w[1], w[2]), -1);
        }
    }

    private static long gcd(long a, long b) {
        return b == 0 ? a : gcd(b, a % b);
    }

    private static void rests() {
        promise = 42;
        LockLetters x = new LockLetters();
        due("0", x.rests(0), 1);
        dueRow("0", x, 0, 0);
        // Level at x each has 4 less what it pays; below is 0 at most, above no more than 2 less that.
        due("8", x.rests(8), 9);
        dueRow("8", x, 0, 0);
        due("1", x.rests(1), 1);
        dueRow("1", x, 0, 0);
        due("20", x.rests(20), 10);
        dueRow("20", x, 0, 0);
        // Half of 4 is 2 and a quarter is 1: x, x is a rest while ceil(x / 2) is 2 at most.
        due("4", x.rests(4), 5);
        due("21", x.rests(21), -1);
        due("-1", x.rests(-1), -1);
        dueRow("refused", x, 0, 0);
    }

    private static void law() {
        promise = 43;
        LockLetters x = losing();
        due("0", say(x, "0").law(), -9);
        dueRow("0", x, 0, 9, 9, 0, 0);
        due("9", say(x, "9").law(), 9);
        dueRow("9", x, 18, 9, 0, 0, 9);
        due("an empty one", x.law(), 0);
        dueRow("an empty one", x, 9, 9, 0, 0, 0);
        withRule(x, "0");
        due("none, against THE RULE", x.law(), 9);
        dueRow("none, against THE RULE", x, 9, 0, 0, 0, 0);
        due("THE RULE is as it was", x.sluice(0, 5), 0);
        dueLevels("nothing changes", x, 9, 0, 0);
        String[] texts = {"x", "a+", "(a", "a<b<m", "1000"};
        int[] places = {0, 2, 2, 3, 3};
        for (int i = 0; i < texts.length; i++) {
            due(texts[i], say(x, texts[i]).law(), -10000 - places[i]);
            due("the text is empty behind " + texts[i], x.count(12), 0);
        }
        due("41 signs", say(x, "1+1+1+1+1+1+1+1+1+1+1+1+1+1+1+1+1+1+1+1+1").law(), -10040);
        due("THE RULE is as it was", x.sluice(0, 5), 0);
        dueRow("nothing was told", x, 9, 0, 0, 0, 0);
        LockLetters y = new LockLetters();
        due("no basins", say(y, "9").law(), 0);
        dueRow("no basins", y, 0, 0);
    }

    private static void years() {
        promise = 44;
        for (int seed = -5; seed <= 5; seed++) {
            int start = seed * 123456789;
            LockLetters x = town("90.;05!;03.", "01g;12w;20s");
            LockLetters y = town("90.;05!;03.", "01g;12w;20s");
            x.hours(3);
            y.hours(3);
            int n = 20 + seed;
            int r = start;
            long went = 0;
            long lost = 0;
            for (int i = 0; i < n; i++) {
                r = r * 1103515245 + 12345;
                int what = (r >>> 16) % 4;
                if (what < 2) {
                    y.hours(1);
                    went += y.row(0);
                    lost += y.row(1);
                } else if (what == 2) {
                    r = r * 1103515245 + 12345;
                    int basin = (r >>> 16) % 3;
                    r = r * 1103515245 + 12345;
                    y.pours(basin, (r >>> 16) % 3 + 1);
                } else {
                    r = r * 1103515245 + 12345;
                    y.boats((r >>> 16) % 3);
                }
            }
            x.keep(0);
            say(x, "abc");
            String was = allButTheRow(x);
            due("levels together", x.years(start, n), y.count(4));
            dueRow("years", x, went, lost);
            due("years() is asked", allButTheRow(x).equals(was), true);
            due("asked again", x.years(start, n), y.count(4));
            dueRow("asked again", x, went, lost);
            due("what can be undone", x.undo(), 0);
            due("as ahead of the hours", x.count(2), 0);
            due("what is kept", x.again(0), true);
            due("as it was kept", x.count(2), 3);
        }
        LockLetters x = new LockLetters();
        // Seed 0 draws 0: 12345 by 65536.
        due("one hour", x.years(0, 1), 0);
        due("one hour", x.count(2), 0);
        dueRow("no basins", x, 0, 0);
        yearsWithoutSluices();
        due("0", x.years(1, 0), -1);
        due("61", x.years(1, 61), -1);
        due("-1", x.years(1, -1), -1);
    }

    /** Without SLUICES there is no second DRAW behind a 3; a second one would change what is poured later. */
    private static void yearsWithoutSluices() {
        for (int seed = 0; seed < 20; seed++) {
            LockLetters x = town("00.;00!", "");
            int[] level = new int[2];
            int lost = 0;
            int r = seed;
            for (int i = 0; i < 12; i++) {
                r = r * 1103515245 + 12345;
                int what = (r >>> 16) % 4;
                if (what < 2 && level[1] > 0) {
                    level[1]--;
                    lost++;
                } else if (what == 2) {
                    r = r * 1103515245 + 12345;
                    int basin = (r >>> 16) % 2;
                    r = r * 1103515245 + 12345;
                    int more = (r >>> 16) % 3 + 1;
                    level[basin] += level[basin] + more > 9 ? 0 : more;
                }
            }
            due("without sluices", x.years(seed, 12), level[0] + level[1]);
            dueRow("without sluices", x, 0, lost);
            due("nothing was poured", x.count(4), 0);
        }
    }

    private static void keep() {
        promise = 45;
        LockLetters x = losing();
        due("0", x.keep(0), true);
        due("1", x.keep(1), true);
        due("2", x.keep(2), false);
        due("-1", x.keep(-1), false);
        x.hours(1);
        due("anew", x.keep(1), true);
        x.hours(1);
        due("it can still be undone", x.count(10), 2);
        x.again(1);
        due("the later one", x.count(2), 1);
        x.again(0);
        due("the earlier one", x.count(2), 0);
    }

    private static void again() {
        promise = 46;
        LockLetters x = town("43.;00!", "01s");
        due("nothing kept", x.again(0), false);
        x.hours(1);
        x.sticks(0);
        x.marks(1, 4);
        x.keep(0);
        due("nothing kept under 1", x.again(1), false);
        due("2", x.again(2), false);
        due("-1", x.again(-1), false);
        due("not forgotten", x.count(10), 3);
        x.sticks(0);
        x.marks(1, 8);
        x.pours(1, 9);
        x.hours(7);
        due("again", x.again(0), true);
        dueLevels("again", x, 3, 0);
        due("mark", x.basin(1, 1), 4);
        due("hour", x.count(2), 1);
        due("lost", x.count(3), 1);
        due("on", x.count(6), 1);
        due("stuck", x.count(7), 1);
        due("forgotten", x.count(10), 0);
        x.hours(1);
        due("once more", x.again(0), true);
        due("hour", x.count(2), 1);
        x.basins();
        x.sluices();
        say(x, "q").basins();
        due("nothing came", x.again(0), true);
        say(x, "10g").sluices();
        due("a sluice came", x.again(0), false);
        x.keep(1);
        due("kept since", x.again(1), true);
        say(x, "11.").basins();
        due("a basin came", x.again(1), false);
        due("a basin came", x.again(0), false);
    }

    private static void count() {
        promise = 47;
        LockLetters x = town("43.;05!;77.", "01s;12g");
        x.hours(2);
        x.sticks(1);
        x.saw(0, 1, 1);
        x.sign(0);
        long[] want = {3, 2, 2, 2, 9, 15, 1, 2, 4, 1, 2, 2, 4};
        for (int what = 0; what < want.length; what++) {
            due("count(" + what + ")", x.count(what), want[what]);
        }
        due("first and third at their marks", losing().count(8), 1);
        due("13", x.count(13), -1);
        due("-1", x.count(-1), -1);
        due("MIN", x.count(Integer.MIN_VALUE), -1);
    }

    private static void row() {
        promise = 48;
        LockLetters x = losing();
        x.hours(1);
        due("row(0)", x.row(0), 2);
        due("row(1)", x.row(1), 1);
        due("row(2) throws", noRow(x, 2), true);
        due("row(-1) throws", noRow(x, -1), true);
        due("row(MAX) throws", noRow(x, Integer.MAX_VALUE), true);
        x.locks(0, 0);
        due("an empty one", noRow(x, 0), true);
        x.spoils(12, 12, 1);
        due("a long", x.row(1), 1000000000000L);
        x.pours(2, 1);
        x.undo();
        due("calls that tell none leave it", x.row(1), 1000000000000L);
    }

    private static void refusedCallsChangeNothing() {
        promise = 0;
        LockLetters x = losing();
        x.hours(1);
        x.saw(0, 1, 1);
        x.sign(0x61626364);
        String was = all(x);
        int[] odd = {Integer.MIN_VALUE, -1, 100, Integer.MAX_VALUE};
        for (int v : odd) {
            x.end(v);
            x.sheet(v, 1, 1, 1);
            x.sheet(0, v < 0 ? -1 : 7, 1, 1);
            x.hours(v);
            x.pours(v, 1);
            x.pours(0, v);
            x.lets(v, 1);
            x.lets(0, v);
            x.boats(v);
            x.sticks(v);
            x.marks(v, 1);
            x.marks(0, v);
            x.later(v, 1);
            x.later(0, v);
            x.marked(v);
            x.busiest(v);
            x.high(v);
            x.table(0, 1, 2, v);
            x.quarters(v, 1);
            x.quarters(1, v);
            x.learns(0, 1, v, 1);
            x.words(0, v, 1);
            x.hears(v, 1);
            x.drought(0, v, 1);
            x.saw(v, 1, 1);
            x.needs(v, 1);
            x.reach(v);
            x.way(v, 0);
            x.cut(0, v);
            x.locks(v, 1);
            x.spoils(v, 1, 1);
            x.rests(v);
            x.years(1, v);
            x.keep(v);
            x.again(v);
            noRow(x, v);
            noBasin(x, v, 0);
            noSluice(x, 0, v);
        }
        checked++;
        if (!was.equals(all(x))) {
            wrong++;
            System.out.println("refused calls: " + was + " became " + all(x));
        }
    }

    private static String all(LockLetters x) {
        StringBuilder s = new StringBuilder(allButTheRow(x)).append(x.count(11)).append(": ");
        for (int i = 0; i < x.count(11); i++) {
            s.append(x.row(i)).append(' ');
        }
        return s.toString();
    }

    private static String allButTheRow(LockLetters x) {
        StringBuilder s = new StringBuilder();
        for (int what = 0; what <= 12; what++) {
            s.append(what == 11 ? 0 : x.count(what)).append(' ');
        }
        for (int i = 0; i < x.count(0); i++) {
            s.append(x.basin(i, 0)).append(x.basin(i, 1)).append(' ');
        }
        return s.toString();
    }
}
