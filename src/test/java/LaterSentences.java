/** Sentences of the promises 18 to 23: what is asked of hours to come. */
final class LaterSentences extends Sentences {
    static void holdAll() {
        later();
        marked();
        round();
        still();
        busiest();
        high();
    }

    /** Basin 3 has 9 first behind 99 hours; until then none has more than 8. */
    private static LockLetters slowlyHigh() {
        return town("80.;08.;08.;00.;10.", "43w;23s;12s;01w", "(n=2)*((b=8)+s>0)");
    }

    /** One part is lost every four hours, 24 in all: the last behind 95 hours by n=2, behind 96 by n=3. */
    private static LockLetters slowlyLost(String basins, String rule) {
        return town(basins, "01w;12w;23w", rule);
    }

    private static void later() {
        promise(18);
        holds("LEVEL of a BASIN in n HOURS (0 .. 99)", () -> {
            LockLetters x = slow("n=2");
            due("now", x.later(0, 0), 9);
            due("behind 2", x.later(0, 2), 9);
            due("behind 3", x.later(0, 3), 8);
            due("behind 98", x.later(3, 98), 6);
            due("behind 99", x.later(3, 99), 7);
            x.sticks(2);
            due("by what is STUCK", x.later(0, 99), 9);
        });
        holds("the ROW: LEVELS together then, SLUICES that are ON then (bits)", () -> {
            LockLetters x = town("50!;33.;00.", "01g;12s;01g;01g;01g;01g;01g;20s", "1");
            x.later(0, 0);
            dueRow("now", x, 8, 0);
            x.later(0, 1);
            dueRow("behind 1", x, 7, 0x82);
            due("it is not ON now", x.count(6), 0);
            LockLetters y = town("90.;90!", "01g");
            y.later(0, 4);
            dueRow("LEVELS of all", y, 14, 0);
        });
        holds("NONE: others.", () -> {
            LockLetters x = town("50.;00.", "01g");
            due("n -1", x.later(0, -1), -1);
            due("n 100", x.later(0, 100), -1);
            due("BASIN 2 of two", x.later(2, 1), -1);
            due("BASIN -1", x.later(-1, 1), -1);
            for (int v : FAR_OFF) {
                due("n " + v, x.later(0, v), -1);
                due("BASIN " + v, x.later(v, 1), -1);
            }
            dueUntold("refused", x);
            due("no BASINS", new LockLetters().later(0, 0), -1);
        });
    }

    private static void marked() {
        promise(19);
        holds("In how many HOURS (0: it is .. 99) LEVEL of a BASIN is its MARK or more first: how many", () -> {
            LockLetters x = town("53.;03.;50.", "01w;21w", "1");
            due("it is, above its MARK", x.marked(0), 0);
            due("it is not", x.marked(1), 2);
            x.marks(0, 5);
            due("it is, at its MARK", x.marked(0), 0);
            x.marks(0, 6);
            due("one below its MARK", x.marked(0), -2);
            due("MARK 0", x.marked(2), 0);
            due("behind 99", slow("n=2").marked(3), 99);
        });
        holds("the ROW: in how many of 100 (0 .. 99) it is", () -> {
            LockLetters x = town("90.;04.", "01g", "1");
            x.marked(0);
            dueRow("always", x, 100);
            x.marks(0, 9);
            x.marked(0);
            dueRow("now alone", x, 1);
            x.marked(1);
            dueRow("behind 4 and more", x, 96);
            LockLetters y = slow("n=2");
            y.marked(3);
            dueRow("behind 99 alone", y, 1);
            LockLetters z = town("05.;50.", "10w", "5");
            z.marked(0);
            dueRow("behind 1 and more", z, 99);
        });
        holds("-2: in none of these", () -> {
            LockLetters x = slow("n=3");
            due("behind 100 first", x.marked(3), -2);
            dueUntold("in none", x);
            LockLetters y = town("09.;50.", "10g");
            due("never", y.marked(0), -2);
            dueUntold("never", y);
        });
        holds("NONE: none such.", () -> {
            LockLetters x = town("50.;00.", "01g");
            due("2 of two", x.marked(2), -1);
            due("-1", x.marked(-1), -1);
            for (int v : FAR_OFF) {
                due("" + v, x.marked(v), -1);
            }
            dueUntold("refused", x);
        });
    }

    private static void round() {
        promise(20);
        holds("Behind how many HOURS (1 .. 99) all is as it was behind fewer (LEVELS, ON, the rest of HOUR by 4) first: how many", () -> {
            due("without BASINS: by HOUR alone", new LockLetters().round(), 4);
            due("nothing moves: by HOUR alone", town("50.", "").round(), 4);
            LockLetters x = town("50.;00.", "01w;10w", "5");
            due("there and back in an hour", x.round(), 4);
            LockLetters y = town("33.;00.", "01s", "(n=0)*9");
            due("LEVELS are the same from 1 on, ON is not", y.round(), 6);
            LockLetters z = town("33.;00.", "01s;10w", "1");
            due("ON from 1 on", z.round(), 5);
            due("behind 99", slowlyLost("90.;90.;60.;00!", "n=2").round(), 99);
            LockLetters later = town("50.", "");
            later.hours(3);
            due("from a later HOUR, too", later.round(), 4);
            LockLetters eighth = town("33.;00.", "01g;01g;01g;01g;01g;01g;01g;01s", "(s=7)*(n=3)*9");
            eighth.hours(3);
            due("ON of the last SLUICE", eighth.round(), 6);
            due("LEVEL of the last BASIN", town("00.;00.;00.;00.;00.;30!", "").round(), 7);
        });
        holds("the ROW: behind how many it was so, how many different sums of all LEVELS there are from then on, till it is so again", () -> {
            LockLetters x = town("50.", "");
            x.round();
            dueRow("now", x, 0, 1);
            LockLetters y = town("30!", "");
            due("three leak", y.round(), 7);
            dueRow("sums of those ahead of it are not told", y, 3, 1);
            LockLetters z = slowlyLost("90.;90.;60.;00!", "n=2");
            z.round();
            dueRow("behind 95", z, 95, 1);
            LockLetters w = new LockLetters();
            w.round();
            dueRow("without BASINS", w, 0, 1);
        });
        holds("-2: behind none of these.", () -> {
            LockLetters x = slowlyLost("90.;90.;60.;00!", "n=3");
            due("behind 100 first", x.round(), -2);
            dueUntold("behind none", x);
        });
    }

    private static void still() {
        promise(21);
        holds("Behind how many HOURS (0 .. 96) no LEVEL changes any more in the next four, first: how many", () -> {
            due("without BASINS", new LockLetters().still(), 0);
            due("nothing moves", town("50.;50.", "01g").still(), 0);
            due("three leak", town("30!", "").still(), 3);
            due("three hours without a change are not four", town("30.;00.", "01w", "n=0").still(), 9);
            due("a change in the fourth", town("10.;00.", "01w", "n=3").still(), 4);
            LockLetters late = town("10.;00.;50!", "01w", "(n=3)*1");
            due("any LEVEL", late.still(), 5);
            due("LEVEL of the last BASIN", town("00.;00.;00.;00.;00.;30!", "").still(), 3);
            due("behind 96", slowlyLost("90.;90.;60.;00!", "n=3").still(), 96);
            due("behind 96, by water that is left", town("80.;08.;08.;00.", "23s;12s;01w", "n=3").still(), 96);
        });
        holds("the ROW: LEVELS together then", () -> {
            LockLetters x = town("50.;20!", "");
            due("two leak", x.still(), 2);
            dueRow("two leak", x, 5);
            LockLetters y = new LockLetters();
            y.still();
            dueRow("without BASINS", y, 0);
            LockLetters on = town("50.;90.", "01s");
            due("ON without room", on.still(), 0);
            dueRow("ON without room", on, 14);
            LockLetters z = slowlyLost("90.;90.;60.;00!", "n=3");
            z.still();
            dueRow("all lost", z, 0);
        });
        holds("-2: behind none of these.", () -> {
            LockLetters x = slowlyLost("90.;90.;70.;00!", "n=0");
            due("behind 97 first", x.still(), -2);
            dueUntold("behind none", x);
            due("it goes on", town("90.;00.", "01w;10w", "9*(n=s*2)").still(), -2);
        });
    }

    private static void busiest() {
        promise(22);
        holds("The SLUICE through which the most goes in n HOURS (1 .. 99): of equal ones the first: it", () -> {
            LockLetters x = town("20.;90.;00.;00.", "02w;13w", "1");
            due("in 1: of equal ones the first", x.busiest(1), 0);
            due("in 2: of equal ones the first", x.busiest(2), 0);
            due("in 3", x.busiest(3), 1);
            due("in 99", x.busiest(99), 1);
            due("nothing goes: the first", town("00.;00.", "01g;10g").busiest(5), 0);
            due("the last of eight", town("00.;00.;90.", "01g;01g;01g;01g;01g;01g;01g;20g").busiest(1), 7);
        });
        holds("the ROW: how much, how much through all", () -> {
            LockLetters x = slow("n=2");
            due("in 98", x.busiest(98), 1);
            dueRow("in 98", x, 9, 24);
            due("in 99", x.busiest(99), 1);
            dueRow("in 99", x, 9, 25);
            due("in 1", x.busiest(1), 0);
            dueRow("in 1", x, 0, 0);
            due("in 3", x.busiest(3), 2);
            dueRow("in 3", x, 1, 1);
        });
        holds("-2: there are no SLUICES", () -> {
            LockLetters x = town("50.;00.", "");
            due("in 1", x.busiest(1), -2);
            due("in 99", x.busiest(99), -2);
            dueUntold("no SLUICES", x);
            due("no BASINS", new LockLetters().busiest(1), -2);
        });
        holds("NONE: another n.", () -> {
            LockLetters x = town("50.;00.", "01g");
            due("0", x.busiest(0), -1);
            due("-1", x.busiest(-1), -1);
            due("100", x.busiest(100), -1);
            for (int v : FAR_OFF) {
                due("" + v, x.busiest(v), -1);
            }
            dueUntold("refused", x);
        });
    }

    private static void high() {
        promise(23);
        holds("The highest LEVEL of any BASIN behind 0, 1, .. n HOURS (0 .. 99): it", () -> {
            LockLetters x = town("50.;20.;40!", "01w", "2");
            due("behind 0", x.high(0), 5);
            due("the highest was now", x.high(1), 5);
            due("behind 2", x.high(2), 6);
            due("behind 3", x.high(3), 7);
            LockLetters y = slowlyHigh();
            due("behind 98", y.high(98), 8);
            due("behind 99", y.high(99), 9);
            due("all empty", town("00.;00.", "01g").high(99), 0);
        });
        holds("the ROW: which BASIN, behind how many HOURS (of as high ones the fewest HOURS, then the first BASIN)", () -> {
            LockLetters x = town("50.;20.;50.", "01w", "2");
            x.high(1);
            dueRow("of as high ones the first BASIN", x, 0, 0);
            x.high(2);
            dueRow("behind 2", x, 1, 2);
            x.high(9);
            dueRow("behind 3", x, 1, 3);
            LockLetters y = town("20.;50.", "10w", "3");
            y.high(9);
            dueRow("the first BASIN", y, 0, 2);
            LockLetters w = town("20.;50.", "10w", "3*(n=0)");
            w.high(3);
            dueRow("the fewest HOURS ahead of the first BASIN", w, 1, 0);
            LockLetters z = slowlyHigh();
            z.high(98);
            dueRow("behind 98", z, 0, 0);
            z.high(99);
            dueRow("behind 99", z, 3, 99);
            LockLetters empty = town("00.;00.", "01g");
            empty.high(0);
            dueRow("all empty", empty, 0, 0);
        });
        holds("-2: there are no BASINS", () -> {
            LockLetters x = town("", "");
            due("behind 0", x.high(0), -2);
            due("behind 99", x.high(99), -2);
            dueUntold("no BASINS", x);
        });
        holds("NONE: another n.", () -> {
            LockLetters x = town("50.;00.", "01g");
            due("-1", x.high(-1), -1);
            due("100", x.high(100), -1);
            for (int v : FAR_OFF) {
                due("" + v, x.high(v), -1);
            }
            dueUntold("refused", x);
        });
    }
}
