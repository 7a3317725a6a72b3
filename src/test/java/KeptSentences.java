/** Sentences of the promises 43 to 48: another rule, years, what is kept, counts, the row. */
final class KeptSentences extends Sentences {
    static void holdAll() {
        law();
        years();
        draws();
        keep();
        again();
        count();
        row();
    }

    private static void law() {
        promise(43);
        holds("THE TEXT is another RULE (an empty one: none): how much goes through SLUICES in 10 HOURS by it, less that by THE RULE (below 0, too)", () -> {
            LockLetters x = town("90.;00.", "01w", "n=0");
            due("in HOURS 1, 5, 9, less 0, 4, 8", say(x, "n=1").law(), 0);
            due("in HOURS 2, 6", say(x, "n=2").law(), -1);
            due("none at all", say(x, "0").law(), -3);
            due("all", say(x, "9").law(), 6);
            due("an empty one: none", x.law(), 6);
            due("THE RULE is as it was", x.sluice(0, 5), 1);
            withRule(x, "");
            due("none by both", x.law(), 0);
            due("none by THE RULE", say(x, "0").law(), -9);
            dueLevels("nothing changes", x, 9, 0);
            due("HOUR", x.count(2), 0);
            due("no BASINS", say(new LockLetters(), "9").law(), 0);
        });
        holds("the ROW: both, by it first, then LEVELS of BASINS then by it", () -> {
            LockLetters x = town("90.;00.;33!", "01w", "n=0");
            say(x, "n=1").law();
            dueRow("HOURS 1, 5, 9", x, 3, 3, 6, 3, 0);
            say(x, "n=2").law();
            dueRow("HOURS 2, 6", x, 2, 3, 7, 2, 0);
            x.law();
            dueRow("an empty one", x, 9, 3, 0, 9, 0);
            LockLetters y = town("", "");
            y.law();
            dueRow("no BASINS", y, 0, 0);
            LockLetters z = town(SIX_BASINS, "");
            say(z, "1").law();
            dueRow("six BASINS", z, 0, 0, 0, 0, 2, 0, 4, 0);
        });
        holds("-10000 - p: the sign at p can't stand there (as rule()).", () -> {
            String forty = "-1" + times(19, "+1");
            LockLetters x = town("90.;00.", "01w", "n=0");
            String was = allAndRow(x);
            String[] texts = {"x", "1x", "1+", "(1", "a<b<1", "1000", "(((((", forty + "1", forty + "x", forty.substring(1) + "+", put(forty, 39, 'x')};
            int[] places = {0, 1, 2, 2, 3, 3, 4, 40, 40, 40, 39};
            for (int i = 0; i < texts.length; i++) {
                due(texts[i], say(x, texts[i]).law(), -10000 - places[i]);
                due("signs", x.count(12), 0);
            }
            due("nothing changes, nothing is told", allAndRow(x), was);
            due("40 signs", say(x, forty).law(), 6);
        });
    }

    /** DRAWS told a second time, with longs. */
    private static final class Drawn {
        private long r;

        Drawn(int seed) {
            r = seed & 0xFFFFFFFFL;
        }

        int of(int n) {
            r = (r * 1103515245L + 12345L) % 4294967296L;
            return (int) (r / 65536 % n);
        }
    }

    /** The least seed whose DRAWS of so many are these. */
    private static int seedOf(int[] of, int[] want) {
        for (int seed = 0; seed < 1000000; seed++) {
            Drawn drawn = new Drawn(seed);
            boolean all = true;
            for (int i = 0; i < of.length && all; i++) {
                all = drawn.of(of[i]) == want[i];
            }
            if (all) {
                return seed;
            }
        }
        throw new IllegalArgumentException("no such seed");
    }

    private static int seedOf(int first) {
        return seedOf(new int[] {4}, new int[] {first});
    }

    /** The same by calls that change a twin of the town: LEVELS together, gone, LOST. */
    private static String yearsByCalls(LockLetters y, int seed, int n) {
        Drawn drawn = new Drawn(seed);
        long gone = 0;
        long lost = 0;
        for (int i = 0; i < n; i++) {
            int what = drawn.of(4);
            if (what < 2) {
                y.hours(1);
                gone += y.row(0);
                lost += y.row(1);
            } else if (what == 2 && y.count(0) > 0) {
                int basin = drawn.of(y.count(0));
                y.pours(basin, drawn.of(3) + 1);
            } else if (what == 3 && y.count(1) > 0) {
                y.boats(drawn.of(y.count(1)));
            }
        }
        return y.count(4) + " [" + gone + " " + lost + "]";
    }

    private static void dueYears(String basins, String sluices, int seed, int n) {
        LockLetters x = town(basins, sluices);
        String want = yearsByCalls(town(basins, sluices), seed, n);
        due("years(" + seed + ", " + n + ")", x.years(seed, n) + " " + rowOf(x), want);
    }

    private static void years() {
        promise(44);
        holds("n times (1 .. 60): a DRAW of 4 tells: 0, 1: AN HOUR", () -> {
            for (int first = 0; first <= 1; first++) {
                LockLetters x = town("90.;05!;03.", "01g;12w");
                due("one HOUR", x.years(seedOf(first), 1), 8);
                dueRow("one HOUR", x, 2, 1);
            }
            int seed = seedOf(new int[] {4, 4, 4}, new int[] {0, 1, 0});
            LockLetters x = town("90.;05!;03.", "01g;12w");
            due("three HOURS", x.years(seed, 3), 6);
            dueRow("three HOURS", x, 5, 3);
            due("it is asked: HOUR", x.count(2), 0);
            int[] sixty = new int[] {1, 2, 59, 60};
            for (int n : sixty) {
                for (int s = -3; s <= 3; s++) {
                    dueYears("90!;05!;03.;80!", "01g;12w;30s;20w", s * 76543210, n);
                }
            }
        });
        holds("2: a DRAW of BASINS one, a DRAW of 3 how much less 1: pours()", () -> {
            for (int basin = 0; basin < 3; basin++) {
                for (int less = 0; less < 3; less++) {
                    int seed = seedOf(new int[] {4, 3, 3}, new int[] {2, basin, less});
                    LockLetters x = town("00.;90.;00.", "");
                    due(less + 1 + " into " + basin, x.years(seed, 1), basin == 1 ? 9 : 9 + less + 1);
                    dueRow("no HOUR", x, 0, 0);
                    LockLetters y = town("00.;90.;60.", "");
                    due(less + 1 + " into " + basin, y.years(seed, 1), basin == 1 ? 15 : 15 + less + 1);
                }
            }
        });
        holds("3: a DRAW of SLUICES one: boats()", () -> {
            for (int sluice = 0; sluice < 2; sluice++) {
                int seed = seedOf(new int[] {4, 2, 4}, new int[] {3, sluice, 0});
                LockLetters x = town("10.;00!;00.", "01g;02g", "0");
                due("a boat by " + sluice + ", then an HOUR", x.years(seed, 2), 1 - (sluice == 0 ? 1 : 0));
                dueRow("a boat by " + sluice + ", then an HOUR", x, 0, sluice == 0 ? 1 : 0);
                x.sticks(0);
                x.sticks(1);
                due("STUCK, too", x.years(seed, 2), 1 - (sluice == 0 ? 1 : 0));
            }
        });
        holds("(each if it can be;", () -> {
            int two = seedOf(new int[] {4, 1, 3}, new int[] {2, 0, 1});
            due("2 into 7", town("70.", "").years(two, 1), 9);
            due("2 into 8", town("80.", "").years(two, 1), 8);
            int three = seedOf(new int[] {4, 1, 3}, new int[] {2, 0, 2});
            due("3 into 8", town("80.", "").years(three, 1), 8);
            int boat = seedOf(new int[] {4, 1, 4}, new int[] {3, 0, 0});
            LockLetters none = town("00.;90!", "01g", "0");
            due("no boat: none to go, no room", none.years(boat, 2), 8);
            LockLetters one = town("10.;80!", "01g", "0");
            due("a boat: one to go, room", one.years(boat, 2), 8);
            dueRow("1 of 9 leaks", one, 0, 1);
        });
        holds("without BASINS, SLUICES no second DRAW)", () -> {
            int[] of = {4, 4, 2, 3, 4};
            int[] want = {3, 2, 1, 2, 0};
            LockLetters x = town("90.;10!", "");
            due("3 without SLUICES, then 3 into 1, then an HOUR", x.years(seedOf(of, want), 3), 12);
            dueRow("an HOUR", x, 0, 1);
            for (int seed = 0; seed < 8; seed++) {
                dueYears("30.;10!", "", seed, 40);
                LockLetters none = town("", "");
                due("without BASINS", none.years(seed, 60), 0);
                dueRow("without BASINS", none, 0, 0);
            }
        });
    }

    private static void draws() {
        holds("LEVELS together then; the ROW: how much went through SLUICES by HOURS in these, LOST more (whole).", () -> {
            int boat = seedOf(new int[] {4, 1, 4}, new int[] {3, 0, 1});
            LockLetters x = town("50.;00.", "01w", "1");
            due("a boat, then an HOUR", x.years(boat, 2), 5);
            dueRow("by HOURS alone", x, 1, 0);
            LockLetters y = allLost();
            y.sheet(2, 6, 9, 0);
            due("an HOUR", y.years(seedOf(0), 1), 48);
            dueRow("whole, though LOST is 9999", y, 0, 6);
            due("LOST", y.count(3), 9999);
        });
        holds("NONE: another n.", () -> {
            LockLetters x = town("90.;05!;03.", "01g;12w");
            String was = allAndRow(x);
            due("0", x.years(1, 0), -1);
            due("61", x.years(1, 61), -1);
            due("-1", x.years(1, -1), -1);
            for (int v : FAR_OFF) {
                due("" + v, x.years(1, v), -1);
            }
            due("as it was", allAndRow(x), was);
            due("60", x.years(1, 60) >= 0, true);
        });
        holds("A DRAW of n: R = R times 1103515245 + 12345 (as ints; R is seed at first), (R without sign, by 65536) % n.", () -> {
            int[] seeds = {0, 1, -1, 2147483647, -2147483648, 12345, -987654321, 1 << 16, 1 << 31 | 5};
            for (int seed : seeds) {
                dueYears("50.;00.;00!", "01w;12g;20s", seed, 25);
                dueYears("50!;00!", "", seed, 25);
            }
            due("seed 0: 12345 by 65536 is 0, an HOUR", town("30!", "").years(0, 1), 2);
            due("seed 3: R is -984409216, without sign 50515 times 65536 and more, 3 of 4", town("30!", "").years(3, 1), 3);
            due("seed 6: R is -1968830777, without sign 35494 times 65536 and more, 2 of 4", town("90!", "").years(6, 1), 9);
        });
    }

    private static void keep() {
        promise(45);
        holds("What undo() brings back is kept under a number 0 .. 1: true.", () -> {
            LockLetters x = town("43.;35!", "01s;01g", "1");
            x.hours(1);
            x.sticks(1);
            String was = all(x);
            due("0", x.keep(0), true);
            due("nothing changes by it", all(x), was);
            x.sticks(0);
            x.marks(0, 9);
            x.hours(9);
            due("1", x.keep(1), true);
            String later = all(x);
            x.hours(1);
            due("anew", x.keep(1), true);
            x.undo();
            due("what can be undone is as it was", all(x), later);
            due("again(0)", x.again(0), true);
            dueLevels("kept", x, 3, 3);
            due("MARKS", x.count(5), 8);
            due("ON", x.count(6), 1);
            due("STUCK", x.count(7), 2);
            due("HOUR", x.count(2), 1);
            due("LOST", x.count(3), 1);
            due("again(1)", x.again(1), true);
            due("the later one", x.count(2), 11);
            due("without BASINS", new LockLetters().keep(1), true);
        });
        holds("Refused: others.", () -> {
            LockLetters x = town("43.;35!", "01s;01g");
            due("2", x.keep(2), false);
            due("-1", x.keep(-1), false);
            for (int v : FAR_OFF) {
                due("" + v, x.keep(v), false);
            }
            due("nothing is kept", x.again(0) || x.again(1) || x.again(2) || x.again(-1), false);
        });
    }

    private static void again() {
        promise(46);
        holds("It is as it was kept under a number.", () -> {
            LockLetters x = town("43.;35!", "01s;01g", "1");
            x.keep(1);
            String was = all(x);
            say(x, "n5p01k1m09").night();
            x.keep(0);
            due("1", x.again(1), true);
            due("as it was", all(x), was);
            x.hours(3);
            due("1 again", x.again(1), true);
            due("as it was", all(x), was);
            x.saw(0, 0, 1);
            withRule(x, "0");
            due("0", x.again(0), true);
            due("HOUR", x.count(2), 5);
            due("STUCK", x.count(7), 2);
            due("what was seen is not brought back", x.count(9), 1);
            due("there is water to flow", x.basin(0, 0) > 0 && x.basin(1, 0) < 9, true);
            due("THE RULE is not brought back", x.sluice(0, 5), 0);
            LockLetters y = new LockLetters();
            y.keep(0);
            y.hours(3);
            due("without BASINS", y.again(0), true);
            due("HOUR", y.count(2), 0);
        });
        holds("Refused: nothing kept", () -> {
            LockLetters x = town("43.;35!", "01s;01g");
            x.hours(1);
            String was = allAndRow(x);
            due("0", x.again(0), false);
            due("1", x.again(1), false);
            due("2", x.again(2), false);
            due("-1", x.again(-1), false);
            for (int v : FAR_OFF) {
                due("" + v, x.again(v), false);
            }
            due("as it was", allAndRow(x), was);
            x.keep(0);
            due("nothing under 1", x.again(1), false);
            due("not forgotten", x.count(10), 1);
        });
        holds("BASINS or SLUICES came since.", () -> {
            LockLetters x = town("43.;35!", "01s;01g");
            x.keep(0);
            x.keep(1);
            x.basins();
            x.sluices();
            say(x, "1x").basins();
            say(x, "0x").sluices();
            due("none came", x.again(0), true);
            say(x, "10g").sluices();
            due("a SLUICE came", x.again(0), false);
            due("a SLUICE came", x.again(1), false);
            due("kept anew", x.keep(0), true);
            due("kept since", x.again(0), true);
            say(x, "11.").basins();
            due("a BASIN came", x.again(0), false);
            due("a BASIN came", x.again(1), false);
            dueLevels("as they are", x, 4, 3, 1);
        });
    }

    private static void count() {
        promise(47);
        holds("What 0: BASINS, 1: SLUICES, 2: HOUR, 3: LOST, 4: LEVELS together, 5: MARKS together, 6: SLUICES that are ON (bits), "
            + "7: SLUICES that are STUCK (bits), 8: BASINS whose LEVEL is their MARK or more (bits), 9: what was seen, "
            + "10: what can be undone, 11: numbers of the ROW, 12: signs of THE TEXT.", () -> {
            LockLetters x = town("43.;05!;77.;98.", "12g;01s", "1");
            x.hours(2);
            x.sticks(0);
            x.saw(0, 1, 1);
            x.saw(0, 1, 1);
            x.saw(0, 1, 1);
            x.sign(0);
            // Hour 0: 43. gives 1, which leaks; so does hour 1.
            long[] want = {4, 2, 2, 2, 18, 23, 2, 1, 12, 3, 2, 2, 4};
            for (int what = 0; what < want.length; what++) {
                due("count(" + what + ")", x.count(what), want[what]);
            }
        });
        holds("8: BASINS whose LEVEL is their MARK or more (bits)", () -> {
            due("below, at and above", town("34.;44.;54.;00.;90.;09.", "").count(8), 2 + 4 + 8 + 16);
            due("no BASINS", new LockLetters().count(8), 0);
        });
        holds("NONE for another what.", () -> {
            LockLetters x = town("43.;05!", "01s");
            due("13", x.count(13), -1);
            due("-1", x.count(-1), -1);
            for (int v : FAR_OFF) {
                due("" + v, x.count(v), -1);
            }
        });
    }

    private static void row() {
        promise(48);
        holds("Number i of the ROW.", () -> {
            LockLetters x = town("90.;00.", "01w", "9");
            x.words(0, 1, 1);
            for (int i = 0; i < 10; i++) {
                due("row(" + i + ")", x.row(i), i);
            }
            x.spoils(12, 12, 1);
            due("a long", x.row(1), 1000000000000L);
        });
        holds("NoSuchElementException: none such.", () -> {
            LockLetters x = new LockLetters();
            due("nothing was told yet", noRow(x, 0), true);
            x.spoils(1, 1, 1);
            due("the last", noRow(x, 1), false);
            due("one too far", noRow(x, 2), true);
            due("-1", noRow(x, -1), true);
            for (int v : FAR_OFF) {
                due("" + v, noRow(x, v), true);
            }
            x.locks(0, 0);
            due("nothing", noRow(x, 0), true);
            x.hours(1);
            x.later(0, 0);
            due("of a row that was longer", noRow(x, 2), true);
        });
    }
}
