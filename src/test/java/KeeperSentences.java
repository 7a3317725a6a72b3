/** Sentences of the promises 10 to 17: hours, keepers, nights, what is undone. */
final class KeeperSentences extends Sentences {
    static void holdAll() {
        hours();
        pours();
        lets();
        boats();
        sticksAndMarks();
        night();
        nightDone();
        undo();
        undoForgets();
    }

    private static void hours() {
        promise(10);
        holds("n HOURS (0 .. 60): LEVELS together then", () -> {
            LockLetters x = town("90.;05!;03.", "01g;12w");
            due("none", x.hours(0), 9);
            due("HOUR", x.count(2), 0);
            dueLevels("none", x, 9, 0, 0);
            due("one", x.hours(1), 8);
            due("HOUR", x.count(2), 1);
            due("sixty", x.hours(60), 0);
            due("HOUR", x.count(2), 61);
            due("without BASINS", new LockLetters().hours(60), 0);
            LockLetters y = slow("n=3");
            y.hours(36);
            due("sixty are done, not fewer", y.hours(60), 9);
            dueLevels("the 24th time is the last hour", y, 0, 0, 3, 6);
        });
        holds("the ROW: how much went through SLUICES in these, LOST more (whole)", () -> {
            LockLetters x = town("90.;05!;03.", "01g;12w");
            x.hours(0);
            dueRow("none", x, 0, 0);
            x.hours(1);
            dueRow("one", x, 2, 1);
            x.boats(0);
            x.lets(0, 1);
            x.hours(1);
            dueRow("no boat, nothing let out, nothing of what was", x, 1, 1);
            LockLetters y = town("50.;00.", "01w;10w", "2");
            y.hours(3);
            dueRow("there and back", y, 12, 0);
            LockLetters z = allLost();
            due("LOST", z.count(3), 9999);
            z.sheet(2, 6, 9, 0);
            z.hours(10);
            dueRow("whole, though LOST is 9999", z, 0, 54);
        });
        holds("Refused: another n.", () -> {
            LockLetters x = town("90.;05!;03.", "01g;12w");
            String was = allAndRow(x);
            due("-1", x.hours(-1), -1);
            due("61", x.hours(61), -1);
            for (int v : FAR_OFF) {
                due("" + v, x.hours(v), -1);
            }
            due("as it was", allAndRow(x), was);
        });
    }

    private static void pours() {
        promise(11);
        holds("n (1 .. 9) is poured into a BASIN: LEVEL.", () -> {
            for (int n = 1; n <= 9; n++) {
                LockLetters x = town("50.;00.", "");
                due("pours(1, " + n + ")", x.pours(1, n), n);
                dueLevels("poured", x, 5, n);
            }
        });
        holds("-2: it would be above 9", () -> {
            for (int level = 0; level <= 9; level++) {
                for (int n = 1; n <= 9; n++) {
                    LockLetters x = town(level + "0.", "");
                    due(n + " into " + level, x.pours(0, n), level + n > 9 ? -2 : level + n);
                    due("LEVEL", x.basin(0, 0), level + n > 9 ? level : level + n);
                    due("what can be undone", x.count(10), level + n > 9 ? 0 : 1);
                }
            }
        });
        holds("NONE: others.", () -> {
            LockLetters x = town("50.;90.", "");
            String was = allAndRow(x);
            due("n 0", x.pours(0, 0), -1);
            due("n 10", x.pours(0, 10), -1);
            due("n 10 into a full one", x.pours(1, 10), -1);
            due("n -1", x.pours(0, -1), -1);
            due("BASIN 2 of two", x.pours(2, 1), -1);
            due("BASIN -1", x.pours(-1, 1), -1);
            due("neither", x.pours(2, 10), -1);
            for (int v : FAR_OFF) {
                due("n " + v, x.pours(0, v), -1);
                due("BASIN " + v, x.pours(v, 1), -1);
            }
            due("as it was", allAndRow(x), was);
            due("no BASINS", new LockLetters().pours(0, 1), -1);
        });
    }

    private static void lets() {
        promise(12);
        holds("n (1 .. 9) is let out of a BASIN: LEVEL.", () -> {
            for (int n = 1; n <= 9; n++) {
                LockLetters x = town("50.;90.", "");
                due("lets(1, " + n + ")", x.lets(1, n), 9 - n);
                dueLevels("let out", x, 5, 9 - n);
                due("it is not LOST", x.count(3), 0);
            }
        });
        holds("-2: there is not so much", () -> {
            for (int level = 0; level <= 9; level++) {
                for (int n = 1; n <= 9; n++) {
                    LockLetters x = town(level + "0.", "");
                    due(n + " of " + level, x.lets(0, n), n > level ? -2 : level - n);
                    due("LEVEL", x.basin(0, 0), n > level ? level : level - n);
                    due("what can be undone", x.count(10), n > level ? 0 : 1);
                }
            }
        });
        holds("NONE: others.", () -> {
            LockLetters x = town("50.;00.", "");
            String was = allAndRow(x);
            due("n 0", x.lets(0, 0), -1);
            due("n 10", x.lets(0, 10), -1);
            due("n 10 of none", x.lets(1, 10), -1);
            due("n -1", x.lets(0, -1), -1);
            due("BASIN 2 of two", x.lets(2, 1), -1);
            due("BASIN -1", x.lets(-1, 1), -1);
            for (int v : FAR_OFF) {
                due("n " + v, x.lets(0, v), -1);
                due("BASIN " + v, x.lets(v, 1), -1);
            }
            due("as it was", allAndRow(x), was);
            due("no BASINS", new LockLetters().lets(0, 1), -1);
        });
    }

    private static void boats() {
        promise(13);
        holds("A boat goes through a SLUICE: 1 goes with it (OPEN or not, STUCK, too): LEVEL to which it went.", () -> {
            LockLetters x = town("37.;50.", "01g;01w;01s;10g", "3");
            due("a gate that is not OPEN", x.boats(0), 6);
            due("a weir that is not OPEN", x.boats(1), 7);
            due("a siphon that is not ON", x.boats(2), 8);
            dueLevels("1 goes, whatever THE RULE says", x, 0, 8);
            x.sticks(3);
            due("a STUCK one", x.boats(3), 1);
            dueLevels("a STUCK one", x, 1, 7);
            due("nothing starts by it", x.count(6), 0);
            due("no HOUR goes by", x.count(2), 0);
        });
        holds("-2: there is none to go, or no room (LEVEL 9)", () -> {
            for (int a = 0; a <= 9; a++) {
                for (int b = 0; b <= 9; b++) {
                    LockLetters x = town(a + "0.;" + b + "0.", "01g");
                    boolean goes = a > 0 && b < 9;
                    due("from " + a + " to " + b, x.boats(0), goes ? b + 1 : -2);
                    dueLevels("from " + a + " to " + b, x, goes ? a - 1 : a, goes ? b + 1 : b);
                    due("what can be undone", x.count(10), goes ? 1 : 0);
                }
            }
        });
        holds("NONE: none such.", () -> {
            LockLetters x = town("50.;50.;50.", "01g;12g");
            String was = allAndRow(x);
            due("2 of two", x.boats(2), -1);
            due("-1", x.boats(-1), -1);
            for (int v : FAR_OFF) {
                due("" + v, x.boats(v), -1);
            }
            due("as it was", allAndRow(x), was);
            due("8 of eight", town(SIX_BASINS, EIGHT_SLUICES).boats(8), -1);
            due("7 of eight", town(SIX_BASINS, EIGHT_SLUICES).boats(7), 4);
            due("no SLUICES", town("50.;50.", "").boats(0), -1);
        });
    }

    private static void sticksAndMarks() {
        promise(14);
        holds("A SLUICE is STUCK, or no more: SLUICES that are STUCK then (bits).", () -> {
            LockLetters x = town(SIX_BASINS, EIGHT_SLUICES);
            due("the last", x.sticks(7), 128);
            due("the first, too", x.sticks(0), 129);
            due("the last no more", x.sticks(7), 1);
            due("the first no more", x.sticks(0), 0);
            due("each of these can be undone", x.count(10), 4);
        });
        holds("NONE: none such.", () -> {
            LockLetters x = town("50.;50.;50.", "01g;12g");
            String was = allAndRow(x);
            due("2 of two", x.sticks(2), -1);
            due("-1", x.sticks(-1), -1);
            for (int v : FAR_OFF) {
                due("" + v, x.sticks(v), -1);
            }
            due("32", x.sticks(32), -1);
            due("as it was", allAndRow(x), was);
            due("8 of eight", town(SIX_BASINS, EIGHT_SLUICES).sticks(8), -1);
        });
        promise(15);
        holds("MARK of a BASIN becomes v (0 .. 9): 10 and what it was.", () -> {
            LockLetters x = town("50.;59!", "");
            due("9 was 0", x.marks(0, 9), 10);
            due("0 was 9", x.marks(1, 0), 19);
            due("MARKS", x.basin(0, 1) * 10 + x.basin(1, 1), 90);
            due("1 was 0", x.marks(1, 1), 10);
            due("2 was 1", x.marks(1, 2), 11);
            dueLevels("LEVELS are as they were", x, 5, 5);
        });
        holds("-2: it is so", () -> {
            for (int mark = 0; mark <= 9; mark++) {
                LockLetters x = town("5" + mark + ".", "");
                due("" + mark, x.marks(0, mark), -2);
                due("nothing to be undone", x.count(10), 0);
            }
        });
        holds("NONE: others.", () -> {
            LockLetters x = town("50.;59!", "");
            String was = allAndRow(x);
            due("v 10", x.marks(0, 10), -1);
            due("v -1", x.marks(0, -1), -1);
            due("BASIN 2 of two", x.marks(2, 1), -1);
            due("BASIN -1", x.marks(-1, 1), -1);
            for (int v : FAR_OFF) {
                due("v " + v, x.marks(0, v), -1);
                due("BASIN " + v, x.marks(v, 1), -1);
            }
            due("as it was", allAndRow(x), was);
        });
    }

    private static void dueNightPlace(String text, int place) {
        LockLetters x = town("50.;53.", "01g;10w");
        String was = allAndRow(x);
        due(text, say(x, text).night(), -1 - place);
        due(text + ": nothing is done", allAndRow(x), was);
    }

    private static void dueNight(String text, int done, int stopped, String levels) {
        LockLetters x = town("50.;53.", "01g;10w");
        due(text, say(x, text).night(), done);
        due(text + ": LEVELS", levelsOf(x), levels);
        dueRow(text, x, stopped, x.count(4));
        due(text + ": what can be undone", x.count(10), done > 0 ? 1 : 0);
    }

    private static void night() {
        promise(16);
        holds("THE TEXT tells A NIGHT (an empty one: nothing)", () -> {
            LockLetters x = town("50.;53.", "01g");
            due("an empty one", x.night(), 0);
            dueRow("an empty one", x, 0, 10);
            due("nothing to be undone", x.count(10), 0);
            due("HOUR", x.count(2), 0);
            due("without BASINS", new LockLetters().night(), 0);
        });
        holds("ACTS one behind another, without signs between", () -> {
            dueNight("n1n1p01", 3, 0, "[7 4]");
            dueNightPlace("n1;n1", 2);
            dueNightPlace("n1 n1", 2);
            dueNightPlace("p01;n1", 3);
            dueNightPlace(";", 0);
            dueNightPlace("n1;", 2);
        });
        holds("n and a digit (hours())", () -> {
            for (int n = 0; n <= 9; n++) {
                LockLetters x = town("50.;53.", "");
                due("n" + n, say(x, "n" + n).night(), 1);
                due("HOUR", x.count(2), n);
            }
            dueNightPlace("n", 1);
            dueNightPlace("n/", 1);
            dueNightPlace("n:", 1);
            dueNightPlace("nn", 1);
            dueNightPlace("n10", 2);
        });
        holds("p, a digit and a digit 1 .. 9 (pours())", () -> {
            dueNight("p01", 1, 0, "[6 5]");
            dueNight("p04", 1, 0, "[9 5]");
            LockLetters x = town("50.;00.", "");
            due("p19", say(x, "p19").night(), 1);
            dueLevels("p19", x, 5, 9);
            dueNightPlace("p", 1);
            dueNightPlace("p0", 2);
            dueNightPlace("p00", 2);
            dueNightPlace("p0:", 2);
            dueNightPlace("p/1", 1);
            dueNightPlace("pp", 1);
            dueNightPlace("p011", 3);
        });
        holds("l, likewise (lets())", () -> {
            dueNight("l01", 1, 0, "[4 5]");
            dueNight("l15", 1, 0, "[5 0]");
            dueNightPlace("l", 1);
            dueNightPlace("l0", 2);
            dueNightPlace("l00", 2);
            dueNightPlace("l0:", 2);
            dueNightPlace("l:1", 1);
            dueNightPlace("l011", 3);
        });
        holds("b and a digit (boats())", () -> {
            dueNight("b0", 1, 0, "[4 6]");
            dueNight("b1", 1, 0, "[6 4]");
            dueNightPlace("b", 1);
            dueNightPlace("b/", 1);
            dueNightPlace("b:", 1);
            dueNightPlace("b01", 2);
        });
        holds("k and a digit (sticks())", () -> {
            LockLetters x = town("50.;53.", "01g;10w");
            due("k1", say(x, "k1").night(), 1);
            due("STUCK", x.count(7), 2);
            dueNightPlace("k", 1);
            dueNightPlace("k/", 1);
            dueNightPlace("k:", 1);
            dueNightPlace("k11", 2);
        });
        holds("m and two digits (marks())", () -> {
            LockLetters x = town("50.;53.", "01g;10w");
            due("m10", say(x, "m10").night(), 1);
            due("MARK 0", x.basin(1, 1), 0);
            due("m19", say(x, "m19").night(), 1);
            due("MARK 9", x.basin(1, 1), 9);
            dueNightPlace("m", 1);
            dueNightPlace("m1", 2);
            dueNightPlace("m:1", 1);
            dueNightPlace("m1/", 2);
            dueNightPlace("m123", 3);
            for (char sign : "acdefghijoqrstuvwxyzNPLBKM019".toCharArray()) {
                dueNightPlace(sign + "11", 0);
                dueNightPlace("n0" + sign, 2);
            }
        });
    }

    private static void nightDone() {
        holds("they are done one by one, till one can't be (it answers below 0): how many were done", () -> {
            dueNight("p01p04p01", 1, 1, "[6 5]");
            dueNight("l05l01p01", 1, 1, "[0 5]");
            dueNight("p91n1", 0, 1, "[5 5]");
            dueNight("l91n1", 0, 1, "[5 5]");
            dueNight("p21n1", 0, 1, "[5 5]");
            dueNight("b2n1", 0, 1, "[5 5]");
            dueNight("k2n1", 0, 1, "[5 5]");
            dueNight("m13n1", 0, 1, "[5 5]");
            dueNight("m20n1", 0, 1, "[5 5]");
            dueNight("n0n0b0b0b0b0b0b1", 6, 1, "[1 9]");
            dueNight("n0", 1, 0, "[5 5]");
        });
        holds("the ROW: 1 if one could not be, else 0; LEVELS together then", () -> {
            LockLetters x = town("50.;53.", "01g;10w");
            say(x, "p01n0").night();
            dueRow("all could be", x, 0, 11);
            say(x, "l19p01").night();
            dueRow("the first could not be", x, 1, 11);
            say(x, "l01l15l11").night();
            dueRow("the last could not be", x, 1, 5);
        });
        holds("-1 - p: the sign at p can't stand there (as basins(); 60 signs)", () -> {
            String sixty = times(30, "k0");
            LockLetters x = town("50.;53.", "01g;10w");
            due("60 signs", say(x, sixty).night(), 30);
            due("60 signs of three", say(x, times(10, "p01l01")).night(), 20);
            dueNightPlace(sixty + "k", 60);
            dueNightPlace(sixty + "k0", 60);
            dueNightPlace(sixty + "x", 60);
            dueNightPlace(times(20, "p01") + "n1", 60);
            dueNightPlace(times(19, "k0p01l01n1").substring(0, 80), 60);
            dueNightPlace(times(27, "p01").substring(0, 80), 60);
            dueNightPlace(sixty.substring(0, 58) + "p0", 60);
            dueNightPlace(sixty.substring(0, 58) + "p01", 60);
            dueNightPlace(sixty.substring(0, 59), 59);
            dueNightPlace(put(sixty, 59, 'x'), 59);
            dueNightPlace(put(sixty, 59, 'x') + "k0", 59);
            for (int p = 0; p < 18; p++) {
                dueNightPlace(put("n1p11l11b0k0m11n1k0", p, 'x'), p);
            }
        });
        holds("nothing is done then", () -> {
            LockLetters x = town("50.;53.", "01g;10w");
            x.keep(0);
            x.hours(1);
            String was = allAndRow(x);
            due("wrong at its end", say(x, "n1p01k0m00l").night(), -12);
            due("wrong in between", say(x, "n1p01xk0").night(), -6);
            due("as it was", allAndRow(x), was);
        });
    }

    private static void undo() {
        promise(17);
        holds("The latest hours(), pours(), lets(), boats(), sticks(), marks(), night()", () -> {
            LockLetters x = town("43.;00!", "01s", "1");
            String[] was = new String[8];
            was[0] = all(x);
            x.hours(1);
            was[1] = all(x);
            x.pours(0, 5);
            was[2] = all(x);
            x.lets(0, 1);
            was[3] = all(x);
            x.boats(0);
            was[4] = all(x);
            x.sticks(0);
            was[5] = all(x);
            x.marks(1, 9);
            was[6] = all(x);
            say(x, "m05n1p12").night();
            for (int i = 6; i >= 0; i--) {
                due("undo()", x.undo(), i);
                due("as ahead of it", all(x), was[i]);
            }
        });
        holds("of 12 that are kept, the latest ones", () -> {
            LockLetters x = town("43.;00!", "01s", "1");
            for (int i = 1; i <= 12; i++) {
                x.hours(1);
                due("what can be undone", x.count(10), i);
            }
            x.hours(1);
            due("12 of 13", x.count(10), 12);
            x.hours(1);
            due("12 of 14", x.count(10), 12);
            for (int i = 11; i >= 0; i--) {
                due("undo()", x.undo(), i);
                due("HOUR", x.count(2), 2 + i);
            }
            due("none", x.undo(), -1);
            due("HOUR behind the first two", x.count(2), 2);
            for (int i = 1; i <= 30; i++) {
                x.marks(1, i % 10);
            }
            for (int i = 11; i >= 0; i--) {
                due("undo()", x.undo(), i);
                due("MARK", x.basin(1, 1), (18 + i) % 10);
            }
        });
        holds("such as were done", () -> {
            LockLetters x = town("93.;00.", "10g");
            x.hours(-1);
            x.hours(61);
            x.pours(0, 1);
            x.pours(2, 1);
            x.lets(1, 1);
            x.lets(0, 10);
            x.boats(0);
            x.boats(1);
            x.sticks(1);
            x.marks(0, 3);
            x.marks(0, 10);
            say(x, "x").night();
            due("none was done", x.count(10), 0);
            due("none", x.undo(), -1);
        });
        holds("hours() of 1 and more", () -> {
            LockLetters x = new LockLetters();
            x.hours(0);
            due("hours() of 0", x.count(10), 0);
            x.hours(1);
            due("hours() of 1", x.count(10), 1);
            x.hours(0);
            due("hours() of 0", x.count(10), 1);
            due("undo()", x.undo(), 0);
            due("HOUR", x.count(2), 0);
        });
        holds("night() of which one ACT was done, as one", () -> {
            LockLetters x = town("43.;00!", "01s", "1");
            say(x, "l19n1").night();
            due("none was done", x.count(10), 0);
            x.night();
            due("an empty one", x.count(10), 0);
            say(x, "l01l19").night();
            due("one was done", x.count(10), 1);
            say(x, "n1p01k0m00").night();
            due("four were done, as one", x.count(10), 2);
            due("undo()", x.undo(), 1);
            dueLevels("undone as one", x, 3, 0);
            due("undo()", x.undo(), 0);
            dueLevels("undone", x, 4, 0);
            say(x, "n0").night();
            due("an ACT of no hours was done", x.count(10), 1);
        });
        holds("is undone (LEVELS, MARKS, ON, STUCK, HOUR, LOST are as ahead of it): how many are left that can be.", () -> {
            LockLetters x = town("43.;35!", "01s;01g", "1");
            x.hours(1);
            due("ON", x.count(6), 1);
            due("LOST", x.count(3), 1);
            x.sticks(1);
            due("the first night", say(x, "k0k1m09m18p05n9").night(), 6);
            due("the second night", say(x, "m07n9k0").night(), 3);
            due("the second night undone", x.undo(), 3);
            due("the first night undone", x.undo(), 2);
            dueLevels("LEVELS", x, 3, 3);
            due("MARKS", x.basin(0, 1) * 10 + x.basin(1, 1), 35);
            due("ON", x.count(6), 1);
            due("STUCK", x.count(7), 2);
            due("HOUR", x.count(2), 1);
            due("LOST", x.count(3), 1);
            x.saw(0, 0, 1);
            withRule(x, "2");
            due("left", x.undo(), 1);
            due("left", x.undo(), 0);
            due("what was seen is not undone", x.count(9), 1);
            due("THE RULE is not undone", x.sluice(0, 5), 2);
        });
        holds("Refused: none.", () -> {
            LockLetters x = town("43.;35!", "01s;01g");
            String was = allAndRow(x);
            due("none", x.undo(), -1);
            due("none, twice", x.undo(), -1);
            due("as it was", allAndRow(x), was);
            x.hours(1);
            due("one", x.undo(), 0);
            due("none", x.undo(), -1);
        });
    }

    private static void undoForgets() {
        holds("(basins(), sluices() and again() forget them, if they are not refused;", () -> {
            LockLetters x = town("43.;35!", "01s;01g");
            x.hours(1);
            x.hours(1);
            due("basins(), refused", say(x, "1").basins(), -2);
            due("sluices(), refused", say(x, "00g").sluices(), -2);
            due("again(), refused", x.again(0), false);
            due("not forgotten", x.count(10), 2);
            due("basins()", say(x, "11.").basins(), 1);
            due("forgotten", x.undo(), -1);
            x.hours(1);
            due("sluices()", say(x, "20g").sluices(), 1);
            due("forgotten", x.undo(), -1);
            x.keep(0);
            x.hours(1);
            due("again()", x.again(0), true);
            due("forgotten", x.undo(), -1);
            x.hours(1);
            say(x, "2").rule();
            x.sheet(2, 3, 1, 1);
            x.keep(1);
            due("no other call forgets", x.count(10), 1);
        });
        holds("those that read an empty text do not.)", () -> {
            LockLetters x = town("43.;35!", "01s;01g");
            x.keep(0);
            x.hours(1);
            due("basins()", x.basins(), 0);
            due("sluices()", x.sluices(), 0);
            due("not forgotten", x.count(10), 1);
            due("undo()", x.undo(), 0);
            due("what is kept stays, too", x.again(0), true);
        });
    }
}
