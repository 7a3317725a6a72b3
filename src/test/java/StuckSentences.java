/** Sentences of the promises 30 to 38: which is stuck, nets. */
final class StuckSentences extends Sentences {
    static void holdAll() {
        saw();
        fits();
        looks();
        needs();
        reach();
        way();
        cut();
        ring();
    }

    /** The siphons 0 and 1 differ first behind 20 hours, in the basins 2 and 3; sluice 2 is seen not to be stuck. */
    private static LockLetters lateSiphons() {
        LockLetters x = town("90.;04.;00.;00.", "12s;13s;01w", "n=3");
        x.saw(1, 4, 1);
        return x;
    }

    private static void saw() {
        promise(30);
        holds("It was seen that in n HOURS (0 .. 20) from now LEVEL of a BASIN is v (0 .. 9), though one SLUICE more is STUCK, or none: how many such.", () -> {
            LockLetters x = town("90.;00.", "01w", "n=3");
            due("now", x.saw(0, 0, 9), 1);
            due("in 20", x.saw(1, 20, 5), 2);
            due("the least", x.saw(1, 0, 0), 3);
            due("the same again", x.saw(1, 0, 0), 4);
            x.fits();
            dueRow("so it is with none", x, 0, 1);
            LockLetters y = town("90.;00.", "01w", "n=3");
            y.saw(1, 20, 4);
            y.fits();
            dueRow("in 20 it is 5", y, 0, 0);
            LockLetters z = town("90.;00.", "01w", "n=3");
            z.saw(1, 19, 4);
            z.fits();
            dueRow("in 19 it is 4", z, 0, 1);
            dueUntold("saw()", lateSiphons());
        });
        holds("Refused: others, 10.", () -> {
            LockLetters x = town("90.;00.", "01w");
            int[][] none = {{2, 0, 0}, {-1, 0, 0}, {0, -1, 0}, {0, 21, 0}, {0, 0, -1}, {0, 0, 10}};
            for (int[] w : none) {
                due("saw(" + w[0] + ", " + w[1] + ", " + w[2] + ")", x.saw(w[0], w[1], w[2]), -1);
            }
            for (int v : FAR_OFF) {
                due("BASIN " + v, x.saw(v, 0, 0), -1);
                due("n " + v, x.saw(0, v, 0), -1);
                due("v " + v, x.saw(0, 0, v), -1);
            }
            due("none", x.count(9), 0);
            for (int i = 1; i <= 10; i++) {
                due("how many", x.saw(0, 0, 9), i);
            }
            due("an eleventh", x.saw(0, 0, 8), -1);
            due("how many", x.count(9), 10);
            x.fits();
            dueRow("the eleventh was not kept", x, 1, 1);
            x.forget();
            due("room again", x.saw(0, 0, 8), 1);
            due("no BASINS", new LockLetters().saw(0, 0, 0), -1);
        });
        promise(31);
        holds("It is forgotten: how many there were.", () -> {
            LockLetters x = town("90.;00.", "01w");
            due("none", x.forget(), 0);
            x.saw(0, 0, 1);
            x.saw(0, 1, 1);
            due("two", x.forget(), 2);
            due("none", x.count(9), 0);
            due("none", x.forget(), 0);
            x.fits();
            dueRow("it fits again", x, 1, 1);
        });
    }

    private static void fits() {
        promise(32);
        holds("SLUICES (not STUCK now; bits) each of which, were it STUCK from now on, would have all be as it was seen", () -> {
            LockLetters x = town("90.;00.;00.", "01w;12w;20w", "1");
            due("nothing was seen", x.fits(), 7);
            x.sticks(1);
            due("one is STUCK now", x.fits(), 5);
            x.sticks(1);
            x.saw(1, 1, 1);
            due("1 would not be emptied", x.fits(), 2);
            x.saw(2, 1, 1);
            due("all, not one of them", x.fits(), 0);
            x.forget();
            x.saw(0, 1, 9);
            due("nothing would go, or go round", x.fits(), 1);
            due("nothing is STUCK by it", x.count(7), 0);
            LockLetters y = town("90.;00.;00.", "01w;12w;20w", "1");
            y.saw(1, 0, 1);
            due("it is not so now", y.fits(), 0);
            due("no SLUICES", town("50.", "").fits(), 0);
            LockLetters z = lateSiphons();
            z.saw(2, 20, 0);
            due("in 20", z.fits(), 1);
        });
        holds("the ROW: how many, 1 if it would be so with none, else 0", () -> {
            LockLetters x = town("90.;00.;00.", "01w;12w;20w", "1");
            x.fits();
            dueRow("nothing was seen", x, 3, 1);
            x.saw(1, 1, 1);
            x.fits();
            dueRow("one, not with none", x, 1, 0);
            x.saw(2, 1, 1);
            x.fits();
            dueRow("none, not with none", x, 0, 0);
            LockLetters y = town("50.", "");
            y.fits();
            dueRow("no SLUICES", y, 0, 1);
            y.saw(0, 20, 4);
            y.fits();
            dueRow("no SLUICES, seen otherwise", y, 0, 0);
            LockLetters z = new LockLetters();
            z.fits();
            dueRow("no BASINS", z, 0, 1);
        });
    }

    private static void looks() {
        promise(33);
        holds("The BASIN and HOUR (0 .. 20 from now) at which to look, so that, whatever LEVEL it is, the fewest of those are left at most", () -> {
            LockLetters x = lateSiphons();
            due("in 20", x.looks(), 21 * 2 + 20);
            dueRow("one at most", x, 1);
            LockLetters y = town("90.;05.;00.;00.", "12s;13s;01w", "(n=0)*(s<2)+(n=3)*(s=2)");
            y.saw(1, 4, 1);
            due("in 21 is too late", y.looks(), 0);
            dueRow("two at most", y, 2);
            LockLetters z = town("90.;00.;00.;00.", "01w;02w;03w", "1+s");
            due("0 tells all three apart", z.looks(), 1);
            dueRow("0 tells all three apart", z, 1);
        });
        holds("21 times BASIN and HOUR, of equal ones the least", () -> {
            LockLetters x = town("00.;00.", "01w;10w");
            due("no look helps", x.looks(), 0);
            LockLetters y = town("00.;90.;90.;00.", "13w;23w", "1");
            due("1 and 2 tell as much, 0 nothing", y.looks(), 21 * 1 + 1);
            LockLetters z = town("00.;00.;90.;90.", "10w;21w;31w", "(s=0)*a+s");
            due("an earlier BASIN in a later HOUR", z.looks(), 21 * 0 + 2);
        });
        holds("the ROW: how many at most", () -> {
            LockLetters x = town("00.;00.;00.", "01w;10w;12w");
            x.looks();
            dueRow("no look helps", x, 3);
            LockLetters y = town("80.;00.;00.;00.", "01w;02w;03w", "1");
            due("0 has 6 by each; 1 has 0 by the first", y.looks(), 21 * 1 + 1);
            dueRow("two have 1 there", y, 2);
            x.sticks(0);
            x.sticks(1);
            x.looks();
            dueRow("one fits", x, 1);
        });
        holds("-2: none fits, or there are no BASINS.", () -> {
            LockLetters x = town("90.;00.", "01w", "1");
            x.saw(0, 0, 8);
            due("none fits", x.looks(), -2);
            dueUntold("none fits", x);
            LockLetters y = town("90.;00.", "01w", "1");
            y.sticks(0);
            due("all are STUCK now", y.looks(), -2);
            dueUntold("all are STUCK", y);
            due("no SLUICES", town("90.", "").looks(), -2);
            LockLetters none = town("", "");
            due("no BASINS", none.looks(), -2);
            dueUntold("no BASINS", none);
        });
    }

    private static void needs() {
        promise(34);
        holds("SLUICES (bits, not STUCK now) by each of which, were it STUCK from now on, LEVEL of BASIN c would be otherwise in n HOURS (0 .. 40)", () -> {
            LockLetters x = town("90.;00.;00.", "01w;12w;20w", "1");
            due("in 0", x.needs(0, 0), 0);
            due("2 in 1", x.needs(2, 1), 4);
            due("1 in 1", x.needs(1, 1), 2);
            due("0 in 1", x.needs(0, 1), 6);
            x.sticks(2);
            due("2 in 1, the third is STUCK now", x.needs(2, 1), 3);
            LockLetters y = tenth("n=3");
            due("in 39", y.needs(2, 39), 0);
            due("in 40", y.needs(2, 40), 3);
            due("nothing is STUCK by it", y.count(7), 0);
        });
        holds("the ROW: how many", () -> {
            LockLetters x = tenth("n=3");
            x.needs(2, 39);
            dueRow("none", x, 0);
            x.needs(2, 40);
            dueRow("two", x, 2);
            LockLetters y = town("50.", "");
            y.needs(0, 1);
            dueRow("no SLUICES", y, 0);
        });
        holds("NONE: others.", () -> {
            LockLetters x = town("90.;00.", "01w");
            due("c 2 of two", x.needs(2, 1), -1);
            due("c -1", x.needs(-1, 1), -1);
            due("n -1", x.needs(0, -1), -1);
            due("n 41", x.needs(0, 41), -1);
            for (int v : FAR_OFF) {
                due("c " + v, x.needs(v, 1), -1);
                due("n " + v, x.needs(0, v), -1);
            }
            dueUntold("refused", x);
        });
    }

    private static void reach() {
        promise(35);
        holds("BASINS (bits) to which one can come from a BASIN by SLUICES that are not STUCK (itself, too)", () -> {
            LockLetters x = town(SIX_BASINS, "45g;34w;23s;12g;01g");
            due("all six, by the SLUICES backwards", x.reach(0), 63);
            due("from 3", x.reach(3), 56);
            due("itself alone", x.reach(5), 32);
            x.sticks(2);
            due("till the STUCK one", x.reach(0), 7);
            x.sticks(2);
            due("STUCK no more", x.reach(0), 63);
            due("no SLUICES", town("11.", "").reach(0), 1);
            due("a ring", town("00.;00.;00.", "01g;10g").reach(1), 3);
        });
        holds("the ROW: how many", () -> {
            LockLetters x = town(SIX_BASINS, "45g;34w;23s;12g;01g");
            x.reach(0);
            dueRow("six", x, 6);
            x.reach(5);
            dueRow("itself", x, 1);
        });
        holds("NONE: none such.", () -> {
            LockLetters x = town("11.;11.", "01g");
            due("2 of two", x.reach(2), -1);
            due("-1", x.reach(-1), -1);
            for (int v : FAR_OFF) {
                due("" + v, x.reach(v), -1);
            }
            dueUntold("refused", x);
            due("6 of six", town(SIX_BASINS, "").reach(6), -1);
        });
    }

    private static void way() {
        promise(36);
        holds("The fewest SLUICES that are not STUCK one behind the other from a BASIN to another one (0: like ones): how many", () -> {
            LockLetters x = town(SIX_BASINS, "45g;34w;23s;12g;01g;05w");
            due("straight", x.way(0, 5), 1);
            x.sticks(5);
            due("five", x.way(0, 5), 5);
            due("like ones", x.way(0, 0), 0);
            due("like ones without a SLUICE", town("11.", "").way(0, 0), 0);
            LockLetters y = town("00.;00.", "01g;10g");
            due("like ones, though there is a ring", y.way(0, 0), 0);
            due("a gate that is not OPEN is a way, too", y.way(0, 1), 1);
        });
        holds("the ROW: they, in turn (of as few the least row)", () -> {
            LockLetters x = town("00.;00.;00.;00.", "23g;13g;02g;01g;01w;03s");
            x.way(0, 3);
            dueRow("straight", x, 5);
            x.sticks(5);
            x.way(0, 3);
            dueRow("2 0 ahead of 3 1", x, 2, 0);
            x.sticks(0);
            x.way(0, 3);
            dueRow("3 1 ahead of 4 1", x, 3, 1);
            x.sticks(3);
            x.way(0, 3);
            dueRow("4 1", x, 4, 1);
            x.way(2, 2);
            dueRow("like ones", x);
            LockLetters y = town(SIX_BASINS, "45g;34w;23s;12g;01g");
            y.way(0, 5);
            dueRow("in turn", y, 4, 3, 2, 1, 0);
        });
        holds("-2: there is no way", () -> {
            LockLetters x = town("00.;00.;00.", "01g;12g");
            due("backwards", x.way(2, 0), -2);
            x.sticks(1);
            due("STUCK", x.way(0, 2), -2);
            dueUntold("no way", x);
            due("no SLUICES", town("00.;00.", "").way(0, 1), -2);
        });
        holds("NONE: none such.", () -> {
            LockLetters x = town("00.;00.", "01g");
            int[][] none = {{2, 0}, {0, 2}, {-1, 0}, {0, -1}, {2, 2}, {-1, -1}};
            for (int[] w : none) {
                due("way(" + w[0] + ", " + w[1] + ")", x.way(w[0], w[1]), -1);
            }
            for (int v : FAR_OFF) {
                due("from " + v, x.way(v, 0), -1);
                due("to " + v, x.way(0, v), -1);
                due("both " + v, x.way(v, v), -1);
            }
            dueUntold("refused", x);
        });
    }

    private static void cut() {
        promise(37);
        holds("The fewest SLUICES (that are not STUCK) to be STUCK so that there is no way from a BASIN to another one: how many", () -> {
            LockLetters x = town("00.;00.;00.;00.", "01g;01w;12g;02s;23g;13g");
            due("two", x.cut(0, 3), 2);
            due("one", x.cut(1, 2), 1);
            due("there is none", x.cut(3, 0), 0);
            x.sticks(3);
            due("one is STUCK now", x.cut(0, 2), 1);
            due("all eight", town("00.;00.", "01g;01w;01s;01g;01w;01s;01g;01w").cut(0, 1), 8);
            due("no SLUICES", town("00.;00.", "").cut(0, 1), 0);
        });
        holds("the ROW: they (bits: of as few the least)", () -> {
            LockLetters x = town("00.;00.;00.;00.", "01g;01w;12g;02s;23g;13g");
            x.cut(0, 3);
            dueRow("4 and 5", x, 48);
            x.cut(0, 1);
            dueRow("0 and 1", x, 3);
            x.cut(3, 0);
            dueRow("there is none", x, 0);
            LockLetters y = town("00.;00.;00.", "12g;01g");
            y.cut(0, 2);
            dueRow("1 is less than 2", y, 1);
            LockLetters z = town("00.;00.;00.", "01g;12g;12g;01g");
            z.cut(0, 2);
            dueRow("6 is less than 9", z, 6);
            LockLetters all = town("00.;00.", "01g;01w;01s;01g;01w;01s;01g;01w");
            all.cut(0, 1);
            dueRow("all eight", all, 255);
            all.sticks(0);
            all.cut(0, 1);
            dueRow("seven", all, 254);
        });
        holds("NONE: none such, like ones.", () -> {
            LockLetters x = town("00.;00.", "01g");
            int[][] none = {{2, 0}, {0, 2}, {-1, 0}, {0, -1}, {0, 0}, {1, 1}, {2, 2}};
            for (int[] w : none) {
                due("cut(" + w[0] + ", " + w[1] + ")", x.cut(w[0], w[1]), -1);
            }
            for (int v : FAR_OFF) {
                due("from " + v, x.cut(v, 0), -1);
                due("to " + v, x.cut(0, v), -1);
            }
            dueUntold("refused", x);
        });
    }

    private static void ring() {
        promise(38);
        holds("The fewest SLUICES (that are not STUCK) by which one comes round to where one was: how many", () -> {
            LockLetters x = town("00.;00.;00.;00.", "01g;12g;20g;23g;30g;13w;31s");
            due("two", x.ring(), 2);
            x.sticks(6);
            due("three", x.ring(), 3);
            x.sticks(2);
            due("three others", x.ring(), 3);
            x.sticks(5);
            due("four", x.ring(), 4);
            due("all six", town(SIX_BASINS, "01g;12g;23g;34g;45g;50g").ring(), 6);
        });
        holds("the ROW: they, in turn, the least one first (of as few the least row)", () -> {
            LockLetters x = town("00.;00.;00.", "21g;02w;10g;21s;02g");
            due("three", x.ring(), 3);
            dueRow("0 2 1 ahead of 0 2 4 and 1 ..", x, 0, 2, 1);
            x.sticks(1);
            x.ring();
            dueRow("0 2 4", x, 0, 2, 4);
            x.sticks(0);
            x.ring();
            dueRow("the least one first", x, 2, 4, 3);
            LockLetters y = town("00.;00.;00.;00.", "01g;23g;32w;10s");
            y.ring();
            dueRow("0 3 ahead of 1 2", y, 0, 3);
            LockLetters z = town(SIX_BASINS, "50g;01g;12g;23g;34g;45g");
            z.ring();
            dueRow("all six", z, 0, 1, 2, 3, 4, 5);
            LockLetters tail = town("00.;00.;00.;00.", "01g;12g;23g;32g");
            tail.ring();
            dueRow("0 and 1 are in no ring", tail, 2, 3);
        });
        holds("-2: there is no such ring.", () -> {
            LockLetters x = town("00.;00.;00.", "01g;12g;02w");
            due("none", x.ring(), -2);
            dueUntold("none", x);
            LockLetters y = town("00.;00.", "01g;10g");
            y.sticks(0);
            due("STUCK", y.ring(), -2);
            dueUntold("STUCK", y);
            due("no SLUICES", town("00.;00.", "").ring(), -2);
            due("no BASINS", new LockLetters().ring(), -2);
        });
    }
}
