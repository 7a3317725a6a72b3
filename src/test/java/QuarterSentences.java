/** Sentences of the promises 24 to 29: quarters that compute, words. */
final class QuarterSentences extends Sentences {
    static void holdAll() {
        table();
        quarters();
        learns();
        words();
        hears();
        drought();
    }

    private static void table() {
        promise(24);
        holds("Two BASINS a and b are put to 0 or 9 each now, LEVELS of others as they are", () -> {
            LockLetters x = town("50.;60.;73.;40.", "32w", "1");
            x.table(0, 1, 0, 0);
            dueRow("a itself", x, 0, 9, 0, 9);
            x.table(0, 1, 1, 0);
            dueRow("b itself", x, 0, 0, 9, 9);
            x.table(0, 1, 2, 0);
            dueRow("another one", x, 7, 7, 7, 7);
            x.table(0, 1, 2, 1);
            dueRow("another one in 1", x, 8, 8, 8, 8);
            dueLevels("they are not put so", x, 5, 6, 7, 4);
        });
        holds("bit 0 for 0 and 0, 1 for a alone, 2 for b alone, 3 for both", () -> {
            LockLetters x = town("01.;01.", "");
            due("a", x.table(0, 1, 0, 0), 10);
            due("b", x.table(0, 1, 1, 0), 12);
            due("a, the other way", x.table(1, 0, 1, 0), 10);
            due("b, the other way", x.table(1, 0, 0, 0), 12);
            due("both", town("00.;00.;02.", "02w;12w", "1").table(0, 1, 2, 1), 8);
            due("either", town("00.;00.;01.", "02w;12w", "1").table(0, 1, 2, 1), 14);
            due("neither", town("00.;00.;33.;00.", "02w;12w;23w", "s/2*8+1").table(0, 1, 2, 1), 1);
        });
        holds("1, if in n HOURS (0 .. 40) LEVEL of BASIN c is its MARK or more: the four bits", () -> {
            LockLetters x = town("50.;50.;44.", "");
            due("at its MARK", x.table(0, 1, 2, 0), 15);
            x.marks(2, 5);
            due("one below its MARK", x.table(0, 1, 2, 0), 0);
            x.marks(2, 3);
            due("above its MARK", x.table(0, 1, 2, 40), 15);
            LockLetters y = tenth("n=3");
            due("in 39", y.table(0, 1, 2, 39), 0);
            due("in 40", y.table(0, 1, 2, 40), 10);
        });
        holds("the ROW: LEVEL of c in each of the four", () -> {
            LockLetters y = tenth("n=3");
            y.table(0, 1, 2, 39);
            dueRow("in 39", y, 0, 0, 0, 0);
            y.table(0, 1, 2, 40);
            dueRow("in 40", y, 0, 1, 0, 1);
            y.table(1, 0, 2, 40);
            dueRow("in 40, the other way", y, 0, 0, 1, 1);
        });
        holds("NONE: others, like a and b.", () -> {
            LockLetters x = town("50.;50.;50.", "01g");
            int[][] none = {{0, 0, 1, 1}, {2, 2, 2, 1}, {3, 1, 2, 1}, {0, 3, 2, 1}, {0, 1, 3, 1}, {-1, 1, 2, 1}, {0, -1, 2, 1}, {0, 1, -1, 1},
                {0, 1, 2, -1}, {0, 1, 2, 41}, {3, 3, 1, 1}};
            for (int[] w : none) {
                due("table(" + w[0] + ", " + w[1] + ", " + w[2] + ", " + w[3] + ")", x.table(w[0], w[1], w[2], w[3]), -1);
            }
            for (int v : FAR_OFF) {
                due("a " + v, x.table(v, 1, 2, 1), -1);
                due("b " + v, x.table(0, v, 2, 1), -1);
                due("c " + v, x.table(0, 1, v, 1), -1);
                due("n " + v, x.table(0, 1, 2, v), -1);
            }
            dueUntold("refused", x);
        });
    }

    /** Threes by table() itself: how many, and the least as a number of three digits. */
    private static int[] threes(LockLetters x, int t, int n) {
        int found = 0;
        int least = -1;
        int basins = x.count(0);
        for (int a = 0; a < basins; a++) {
            for (int b = a + 1; b < basins; b++) {
                for (int c = 0; c < basins; c++) {
                    if (x.table(a, b, c, n) == t) {
                        least = found == 0 ? 100 * a + 10 * b + c : least;
                        found++;
                    }
                }
            }
        }
        return new int[] {found, least};
    }

    private static void quarters() {
        promise(25);
        holds("Threes of BASINS a, b, c (a less than b; c any one, a and b, too) by which table() in n HOURS (0 .. 40) is t (0 .. 15): how many", () -> {
            LockLetters x = town("01.;01.;01.", "");
            due("c is a", x.quarters(10, 0), 3);
            due("c is b", x.quarters(12, 0), 3);
            due("c is another one", x.quarters(0, 0), 3);
            x.marks(0, 0);
            x.marks(1, 0);
            x.marks(2, 0);
            due("every three", x.quarters(15, 40), 9);
            due("none", x.quarters(14, 40), 0);
            due("no BASINS", new LockLetters().quarters(0, 0), 0);
            due("one BASIN", town("01.", "").quarters(0, 0), 0);
            for (int n : new int[] {0, 1, 39, 40}) {
                for (int t : new int[] {0, 2, 8, 10, 12, 14, 15}) {
                    LockLetters y = tenth("n=3");
                    due(t + " in " + n, y.quarters(t, n), threes(y, t, n)[0]);
                }
            }
        });
        holds("the ROW: the least (nothing without)", () -> {
            LockLetters x = town("01.;01.;01.", "");
            x.quarters(10, 0);
            dueRow("c is a", x, 0, 1, 0);
            x.quarters(12, 0);
            dueRow("c is b", x, 0, 1, 1);
            x.quarters(0, 0);
            dueRow("c is another one", x, 0, 1, 2);
            x.quarters(3, 0);
            dueRow("nothing without", x);
            LockLetters y = town("01.;00.;01.", "");
            y.quarters(0, 0);
            dueRow("the last c of the first two", y, 0, 1, 2);
            y.quarters(15, 0);
            dueRow("MARK 0", y, 0, 1, 1);
            LockLetters z = tenth("n=3");
            for (int t = 0; t <= 15; t += 5) {
                int least = threes(z, t, 40)[1];
                z.quarters(t, 40);
                if (least >= 0) {
                    dueRow(t + " in 40", z, least / 100, least / 10 % 10, least % 10);
                } else {
                    dueRow(t + " in 40", z);
                }
            }
            LockLetters none = town("", "");
            none.quarters(0, 0);
            dueRow("no BASINS", none);
        });
        holds("NONE: others.", () -> {
            LockLetters x = town("50.;50.;50.", "01g");
            due("t 16", x.quarters(16, 1), -1);
            due("t -1", x.quarters(-1, 1), -1);
            due("n 41", x.quarters(1, 41), -1);
            due("n -1", x.quarters(1, -1), -1);
            for (int v : FAR_OFF) {
                due("t " + v, x.quarters(v, 1), -1);
                due("n " + v, x.quarters(1, v), -1);
            }
            dueUntold("refused", x);
        });
    }

    private static void learns() {
        promise(26);
        holds("In how many HOURS (0 .. 40) table() of a, b, c is t (0 .. 15) first: how many", () -> {
            LockLetters x = town("00.;00.;00.", "02w;12w", "1");
            due("15 at once", x.learns(0, 1, 2, 15), 0);
            x.marks(2, 1);
            due("0 at once", x.learns(0, 1, 2, 0), 0);
            due("either in 1", x.learns(0, 1, 2, 14), 1);
            due("10: c is a", town("01.;00.", "").learns(0, 1, 0, 10), 0);
            due("in 40", tenth("n=3").learns(0, 1, 2, 10), 40);
        });
        holds("the ROW: in how many of these 41 it is", () -> {
            LockLetters x = town("00.;00.;01.", "02w;12w", "1");
            x.learns(0, 1, 2, 0);
            dueRow("0", x, 1);
            x.learns(0, 1, 2, 14);
            dueRow("either", x, 40);
            x.marks(2, 0);
            x.learns(0, 1, 2, 15);
            dueRow("always", x, 41);
            LockLetters y = tenth("n=3");
            y.learns(0, 1, 2, 10);
            dueRow("in 40 alone", y, 1);
            y.learns(0, 1, 2, 0);
            dueRow("in 0 .. 39", y, 40);
        });
        holds("-2: in none", () -> {
            LockLetters x = tenth("n=0");
            x.marks(2, 2);
            due("in 41 first", x.learns(0, 1, 2, 10), -2);
            dueUntold("in none", x);
            due("never", x.learns(0, 1, 2, 6), -2);
            dueUntold("in none", x);
        });
        holds("NONE: others, like a and b.", () -> {
            LockLetters x = town("50.;50.;50.", "01g");
            int[][] none = {{0, 0, 1, 1}, {3, 1, 2, 1}, {0, 3, 2, 1}, {0, 1, 3, 1}, {-1, 1, 2, 1}, {0, -1, 2, 1}, {0, 1, -1, 1}, {0, 1, 2, -1}, {0, 1, 2, 16}};
            for (int[] w : none) {
                due("learns(" + w[0] + ", " + w[1] + ", " + w[2] + ", " + w[3] + ")", x.learns(w[0], w[1], w[2], w[3]), -1);
            }
            for (int v : FAR_OFF) {
                due("a " + v, x.learns(v, 1, 2, 1), -1);
                due("b " + v, x.learns(0, v, 2, 1), -1);
                due("c " + v, x.learns(0, 1, v, 1), -1);
                due("t " + v, x.learns(0, 1, 2, v), -1);
            }
            dueUntold("refused", x);
        });
    }

    private static void words() {
        promise(27);
        holds("By LEVELS 0 .. 9 to which BASIN a is put now, LEVEL of BASIN b in n HOURS (0 .. 40): how many different ones", () -> {
            LockLetters x = town("50.;00.", "01w", "9");
            due("in 0", x.words(0, 1, 0), 1);
            due("in 1", x.words(0, 1, 1), 10);
            due("5 alone", x.words(1, 0, 0), 1);
            x.sticks(0);
            due("STUCK", x.words(0, 1, 1), 1);
            LockLetters y = tenth("n=3");
            due("in 39", y.words(0, 2, 39), 1);
            due("in 40", y.words(0, 2, 40), 2);
            dueLevels("it is not put so", y, 9, 0, 0, 0);
        });
        holds("the ROW: the ten", () -> {
            LockLetters x = town("50.;00.", "01w", "9");
            x.words(0, 1, 0);
            dueRow("in 0", x, 0, 0, 0, 0, 0, 0, 0, 0, 0, 0);
            x.words(0, 1, 1);
            dueRow("in 1", x, 0, 1, 2, 3, 4, 5, 6, 7, 8, 9);
            LockLetters y = tenth("n=3");
            y.words(0, 2, 40);
            dueRow("in 40", y, 0, 0, 0, 0, 0, 0, 0, 0, 0, 1);
        });
        holds("NONE: others, like ones.", () -> {
            LockLetters x = town("50.;50.;50.", "01g");
            int[][] none = {{0, 0, 1}, {2, 2, 1}, {3, 0, 1}, {0, 3, 1}, {-1, 0, 1}, {0, -1, 1}, {0, 1, -1}, {0, 1, 41}, {3, 3, 1}};
            for (int[] w : none) {
                due("words(" + w[0] + ", " + w[1] + ", " + w[2] + ")", x.words(w[0], w[1], w[2]), -1);
            }
            for (int v : FAR_OFF) {
                due("a " + v, x.words(v, 1, 1), -1);
                due("b " + v, x.words(0, v, 1), -1);
                due("n " + v, x.words(0, 1, v), -1);
            }
            dueUntold("refused", x);
        });
    }

    private static void hears() {
        promise(28);
        holds("The BASIN b (another one) in which the most different words of a BASIN a are told apart in n HOURS (0 .. 40), as words()", () -> {
            LockLetters x = town("50.;00.;00.", "01w;02w", "1+s*8");
            due("more in the second", x.hears(0, 1), 2);
            due("not itself, though ten are told apart there", x.hears(0, 0), 1);
            LockLetters y = town("50.;00.;00.", "12w", "9");
            due("not itself, of 1", y.hears(1, 1), 2);
            due("the last of six", town("00.;00.;00.;00.;00.;00.", "05w", "9").hears(0, 1), 5);
            due("in 40", tenth("n=3").hears(0, 40), 3);
        });
        holds("of equal ones the first: it", () -> {
            LockLetters x = town("50.;00.;00.", "01w;02w", "1");
            due("nobody hears", x.hears(0, 0), 1);
            due("nobody hears 1", x.hears(1, 0), 0);
            due("nobody hears 2", x.hears(2, 0), 0);
            LockLetters y = town("00.;00.;00.", "21w;20w", "1");
            due("both hear two", y.hears(2, 1), 0);
        });
        holds("the ROW: how many", () -> {
            LockLetters x = town("50.;00.;00.", "01w;02w", "1+s*8");
            x.hears(0, 0);
            dueRow("one", x, 1);
            x.hears(0, 1);
            dueRow("nine", x, 9);
            LockLetters y = tenth("n=3");
            y.hears(0, 39);
            dueRow("in 39", y, 10);
            y.hears(0, 40);
            dueRow("in 40", y, 9);
        });
        holds("-2: there is no other one", () -> {
            LockLetters x = town("50.", "");
            due("in 0", x.hears(0, 0), -2);
            due("in 40", x.hears(0, 40), -2);
            dueUntold("no other one", x);
        });
        holds("NONE: others.", () -> {
            LockLetters x = town("50.;50.;50.", "01g");
            due("a 3 of three", x.hears(3, 1), -1);
            due("a -1", x.hears(-1, 1), -1);
            due("n -1", x.hears(0, -1), -1);
            due("n 41", x.hears(0, 41), -1);
            for (int v : FAR_OFF) {
                due("a " + v, x.hears(v, 1), -1);
                due("n " + v, x.hears(0, v), -1);
            }
            dueUntold("refused", x);
            due("no BASINS", new LockLetters().hears(0, 1), -1);
            due("1 of one", town("50.", "").hears(1, 1), -1);
        });
    }

    private static void drought() {
        promise(29);
        holds("The least LEVEL (0 .. 9) to which BASIN a is to be put now so that in n HOURS (0 .. 40) LEVEL of BASIN b (a, too) is its MARK or more: it", () -> {
            LockLetters x = town("90.;04.", "01w", "9");
            due("4 at least", x.drought(0, 1, 1), 4);
            x.marks(1, 9);
            due("9 at least", x.drought(0, 1, 1), 9);
            x.marks(1, 0);
            due("0", x.drought(0, 1, 1), 0);
            x.marks(0, 6);
            due("a, too", x.drought(0, 0, 0), 6);
            due("in 40", tenth("n=3").drought(0, 2, 40), 9);
            dueLevels("it is not put so", x, 9, 0);
        });
        holds("the ROW: by how many of the ten it is", () -> {
            LockLetters x = town("90.;04.", "01w", "9");
            x.drought(0, 1, 1);
            dueRow("4 .. 9", x, 6);
            x.marks(1, 0);
            x.drought(0, 1, 40);
            dueRow("all", x, 10);
            x.marks(0, 9);
            x.drought(0, 0, 0);
            dueRow("9 alone", x, 1);
            LockLetters y = town("03.;00.", "01w", "(a=5)*9");
            y.marks(1, 4);
            due("5", y.drought(0, 1, 1), 5);
            dueRow("5 alone, not all above the least", y, 1);
        });
        holds("-2: by none", () -> {
            LockLetters x = tenth("n=3");
            due("in 39", x.drought(0, 2, 39), -2);
            dueUntold("by none", x);
        });
        holds("NONE: others.", () -> {
            LockLetters x = town("50.;50.;50.", "01g");
            int[][] none = {{3, 0, 1}, {0, 3, 1}, {-1, 0, 1}, {0, -1, 1}, {0, 1, -1}, {0, 1, 41}};
            for (int[] w : none) {
                due("drought(" + w[0] + ", " + w[1] + ", " + w[2] + ")", x.drought(w[0], w[1], w[2]), -1);
            }
            for (int v : FAR_OFF) {
                due("a " + v, x.drought(v, 1, 1), -1);
                due("b " + v, x.drought(0, v, 1), -1);
                due("n " + v, x.drought(0, 1, v), -1);
            }
            dueUntold("refused", x);
        });
    }
}
