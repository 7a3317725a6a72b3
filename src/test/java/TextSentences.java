/** Sentences of the promises 1 to 9: texts, basins, sluices, the rule, a sheet. */
final class TextSentences extends Sentences {
    static void holdAll() {
        newObject();
        signAndEnd();
        basins();
        sluices();
        rule();
        basinAndSluice();
        sheet();
        sheetRefused();
    }

    private static void newObject() {
        promise(1);
        holds("A new object", () -> {
            LockLetters x = new LockLetters();
            for (int what = 0; what <= 12; what++) {
                due("count(" + what + ")", x.count(what), 0);
            }
            due("row(0) throws", noRow(x, 0), true);
            due("undo()", x.undo(), -1);
            due("again(0)", x.again(0), false);
            due("again(1)", x.again(1), false);
            due("NONE", LockLetters.NONE, -1);
        });
        holds("No BASINS, no SLUICES.", () -> {
            LockLetters x = new LockLetters();
            due("BASIN 0", noBasin(x, 0, 0), true);
            due("SLUICE 0", noSluice(x, 0, 0), true);
            due("hours()", x.hours(60), 0);
            due("later()", x.later(0, 0), -1);
            due("boats()", x.boats(0), -1);
        });
    }

    private static void signAndEnd() {
        promise(2);
        holds("Four signs come behind THE TEXT, of v the highest byte first: how many it has.", () -> {
            LockLetters x = new LockLetters();
            due("four", x.sign('9' << 24 | '0' << 16 | '.' << 8 | ';'), 4);
            due("eight", x.sign('1' << 24 | '2' << 16 | '!' << 8), 8);
            due("a sign of 0 is a sign, too", x.count(12), 8);
            x.end(7);
            due("basins()", x.basins(), 2);
            dueLevels("basins()", x, 9, 1);
            due("a byte with its highest bit is a sign", x.sign(0xB9B0AEBB), 4);
            due("but no digit", x.basins(), -1);
            due("-1", x.sign(-1), 4);
        });
        holds("Refused: there would be more than 80.", () -> {
            LockLetters x = new LockLetters();
            for (int i = 1; i <= 20; i++) {
                due("sign()", x.sign('1' << 24), 4 * i);
            }
            for (int size = 80; size >= 77; size--) {
                x.end(size);
                due("with " + size, x.sign(0), -1);
                due("signs", x.count(12), size);
            }
            x.end(76);
            due("with 76", x.sign(0), 80);
            x.end(1);
            due("THE TEXT is as it was", x.basins(), -2);
        });
        promise(3);
        holds("THE TEXT has its first n signs alone: true", () -> {
            LockLetters x = say(new LockLetters(), "34.;12!;x");
            due("as many", x.end(9), true);
            due("signs", x.count(12), 9);
            due("one less", x.end(8), true);
            due("signs", x.count(12), 8);
            due("seven", x.end(7), true);
            due("its first ones", x.basins(), 2);
            dueLevels("its first ones", x, 3, 1);
            due("none of none", x.end(0), true);
            say(x, "11.");
            due("none of three", x.end(0), true);
            due("signs", x.count(12), 0);
            due("an empty one", x.basins(), 0);
        });
        holds("false if it has not so many, or n is below 0.", () -> {
            LockLetters x = new LockLetters();
            due("one of none", x.end(1), false);
            say(x, "11.");
            due("one more", x.end(4), false);
            due("below 0", x.end(-1), false);
            for (int v : FAR_OFF) {
                due("" + v, x.end(v), false);
            }
            due("signs", x.count(12), 3);
            x.end(2);
            due("what was cut is not there any more", x.end(3), false);
            due("basins()", x.basins(), -3);
        });
    }

    private static void basins() {
        promise(4);
        holds("THE TEXT tells of BASINS (an empty one: nothing): how many LINES.", () -> {
            LockLetters x = new LockLetters();
            due("an empty one", x.basins(), 0);
            due("BASINS", x.count(0), 0);
            due("one", say(x, "17!").basins(), 1);
            due("two", say(x, "28.;39.").basins(), 2);
            dueLevels("three", x, 1, 2, 3);
            due("MARKS", x.count(5), 24);
            due("an empty one", x.basins(), 0);
            due("BASINS", x.count(0), 3);
            due("room is left for three", say(x, "11.;11.;11.").basins(), 3);
            due("an empty one needs no room", x.basins(), 0);
        });
        holds("-1 - p: the sign at p can't stand there", () -> {
            for (int p = 0; p < 23; p++) {
                due("x at " + p, say(new LockLetters(), put(SIX_BASINS, p, 'x')).basins(), -1 - p);
                due("255 at " + p, say(new LockLetters(), put(SIX_BASINS, p, (char) 255)).basins(), -1 - p);
            }
            due("the first of two", say(new LockLetters(), "11.;x1.;xxx").basins(), -5);
        });
        holds("its end, if it ends too early", () -> {
            for (int size = 1; size <= 23; size++) {
                int answer = say(new LockLetters(), SIX_BASINS.substring(0, size)).basins();
                due(size + " signs", answer, size % 4 == 3 ? (size + 1) / 4 : -1 - size);
            }
        });
        holds("23, if it has more and the first 23 could go on or end", () -> {
            for (String more : new String[] {";", "x", "1", ";1", ";11.", ";11.;11."}) {
                due("23 and " + more, say(new LockLetters(), SIX_BASINS + more).basins(), -24);
            }
            due("80 signs", say(new LockLetters(), times(20, "11.;")).basins(), -24);
            due("80 signs, the 23rd wrong", say(new LockLetters(), put(times(20, "11.;"), 22, ';')).basins(), -23);
            due("80 signs, the 24th wrong", say(new LockLetters(), put(times(20, "11.;"), 23, 'x')).basins(), -24);
        });
        holds("the first sign of a LINE for which there is no room", () -> {
            for (int there = 1; there <= 6; there++) {
                LockLetters x = town(SIX_BASINS.substring(0, 4 * there - 1), "");
                int place = 4 * (6 - there);
                due(there + " and six", say(x, SIX_BASINS).basins(), -1 - place);
                due(there + " and one too many", say(x, SIX_BASINS.substring(0, place) + "99!").basins(), -1 - place);
                due(there + " and a wrong sign there", say(x, SIX_BASINS.substring(0, place) + "x").basins(), -1 - place);
                due(there + " and a wrong sign behind it", say(x, SIX_BASINS.substring(0, place) + "9x").basins(), -1 - place);
                due("BASINS", x.count(0), there);
                if (there < 6) {
                    due("just room", say(x, SIX_BASINS.substring(0, place - 1)).basins(), 6 - there);
                }
            }
            LockLetters y = town("11.;11.;11.;11.", "");
            due("a wrong sign ahead of it", say(y, "11.;1x.;11.").basins(), -6);
            due("it ends where there is no room", say(y, "11.;11.;").basins(), -9);
        });
        holds("Nothing of it comes, if a LINE can't.", () -> {
            LockLetters x = town("50.;60.", "01g");
            x.hours(1);
            x.keep(0);
            String was = allAndRow(x);
            due("the third", say(x, "11.;22.;3x.").basins(), -10);
            due("the end", say(x, "11.;22.;33").basins(), -11);
            due("no room", say(x, "11.;22.;33.;44.;55.").basins(), -17);
            due("all", allAndRow(x), was);
            due("what is kept", x.again(0), true);
        });
    }

    private static void sluices() {
        promise(5);
        holds("THE TEXT tells of SLUICES (an empty one: nothing): how many LINES.", () -> {
            LockLetters x = new LockLetters();
            due("an empty one without BASINS", x.sluices(), 0);
            say(x, "11.;11.;11.").basins();
            due("an empty one", x.sluices(), 0);
            due("one", say(x, "21s").sluices(), 1);
            due("two more", say(x, "10w;02g").sluices(), 2);
            due("the second", x.sluice(1, 0) * 100 + x.sluice(1, 1) * 10 + x.sluice(1, 2), 101);
            due("an empty one", x.sluices(), 0);
            due("SLUICES", x.count(1), 3);
            due("five more", say(x, "01g;01g;01g;01g;01g").sluices(), 5);
            due("an empty one needs no room", x.sluices(), 0);
        });
        holds("-1 - p: likewise", () -> {
            for (int p = 0; p < 31; p++) {
                due("x at " + p, say(town(SIX_BASINS, ""), put(EIGHT_SLUICES, p, 'x')).sluices(), -1 - p);
            }
            for (int size = 1; size <= 31; size++) {
                int answer = say(town(SIX_BASINS, ""), EIGHT_SLUICES.substring(0, size)).sluices();
                due(size + " signs", answer, size % 4 == 3 ? (size + 1) / 4 : -1 - size);
            }
            for (int there = 1; there <= 8; there++) {
                LockLetters x = town(SIX_BASINS, EIGHT_SLUICES.substring(0, 4 * there - 1));
                int place = 4 * (8 - there);
                due(there + " and eight", say(x, EIGHT_SLUICES).sluices(), -1 - place);
                due(there + " and a wrong sign behind it", say(x, EIGHT_SLUICES.substring(0, place) + "0x").sluices(), -1 - place);
                due("SLUICES", x.count(1), there);
                if (there < 8) {
                    due("just room", say(x, EIGHT_SLUICES.substring(0, place - 1)).sluices(), 8 - there);
                }
            }
            LockLetters y = town("50.;60.", "01g");
            y.hours(1);
            String was = allAndRow(y);
            due("the third", say(y, "01g;10g;01x").sluices(), -11);
            due("nothing of it comes", allAndRow(y), was);
        });
        holds("(31 signs;", () -> {
            for (String more : new String[] {";", "x", "0", ";0", ";01g", ";01g;01g"}) {
                due("31 and " + more, say(town(SIX_BASINS, ""), EIGHT_SLUICES + more).sluices(), -32);
            }
            due("80 signs", say(town(SIX_BASINS, ""), times(20, "01g;")).sluices(), -32);
            due("80 signs, the 31st wrong", say(town(SIX_BASINS, ""), put(times(20, "01g;"), 30, ';')).sluices(), -31);
        });
        holds("a BASIN that is not there, or the same one: at its digit", () -> {
            LockLetters x = new LockLetters();
            due("no BASINS", say(x, "01g").sluices(), -1);
            say(x, "11.").basins();
            due("one BASIN, the first digit", say(x, "10g").sluices(), -1);
            due("one BASIN, the second digit", say(x, "01g").sluices(), -2);
            due("one BASIN, the same", say(x, "00g").sluices(), -2);
            say(x, "11.").basins();
            due("two BASINS", say(x, "01g").sluices(), 1);
            due("behind a LINE, the first digit", say(x, "10g;20g").sluices(), -5);
            due("behind a LINE, the second digit", say(x, "10g;02g").sluices(), -6);
            due("behind a LINE, the same", say(x, "10g;11g").sluices(), -6);
            due("not there, twice", say(x, "22g").sluices(), -1);
            LockLetters y = town(SIX_BASINS, "");
            due("6 of six", say(y, "60g").sluices(), -1);
            due("6 of six", say(y, "56g").sluices(), -2);
            due("9 of six", say(y, "59g").sluices(), -2);
            due("5 of six", say(y, "50g;05g").sluices(), 2);
        });
    }

    private static void rule() {
        String forty = "-1" + times(19, "+1");
        promise(6);
        holds("THE TEXT is THE RULE (an empty one: none): 0.", () -> {
            LockLetters x = town("90.;00.", "01g");
            due("none at first", x.sluice(0, 5), 2);
            due("a rule", say(x, "7").rule(), 0);
            due("FLOW", x.sluice(0, 5), 7);
            due("another one", say(x, "b+3").rule(), 0);
            due("FLOW", x.sluice(0, 5), 3);
            due("an empty one", x.rule(), 0);
            due("none", x.sluice(0, 5), 2);
            due("without BASINS", say(new LockLetters(), "a").rule(), 0);
        });
        holds("-1 - p: likewise (40 signs).", () -> {
            LockLetters x = town("90.;00.", "01g", "7");
            String was = allAndRow(x);
            due("40 signs", forty.length(), 40);
            due("41 signs, the first 40 could end", say(x, forty + "0").rule(), -41);
            due("41 signs, the last one wrong", say(x, forty + "x").rule(), -41);
            due("41 signs, the first 40 could go on", say(x, forty.substring(1) + "+1").rule(), -41);
            due("41 signs, open at 40", say(x, "(" + forty.substring(1) + ")").rule(), -41);
            due("80 signs", say(x, times(40, "--")).rule(), -41);
            due("80 signs, the 40th wrong", say(x, put(times(40, "--"), 39, ')')).rule(), -40);
            due("80 signs, the first wrong", say(x, put(times(40, "--"), 0, ')')).rule(), -1);
            due("40 signs that end too early", say(x, forty.substring(1) + "+").rule(), -41);
            due("39 signs that end too early", say(x, forty.substring(0, 39)).rule(), -40);
            due("as it was", allAndRow(x), was);
            due("40 signs", say(x, forty).rule(), 0);
            due("18, put to 9", x.sluice(0, 5), 9);
        });
        holds("likewise", () -> {
            LockLetters x = town("90.;00.", "01g", "7");
            String[] texts = {"z", "1z", "1+", "1+z", "(", "(1", "(1z", "()", "1)", "a<b<1", "1234", "((((("};
            int[] places = {0, 1, 2, 2, 1, 2, 2, 1, 1, 3, 3, 4};
            for (int i = 0; i < texts.length; i++) {
                due(texts[i], say(x, texts[i]).rule(), -1 - places[i]);
                due("THE RULE is as it was", x.sluice(0, 5), 7);
            }
            due("a - that waits for a thing", say(x, "-)").rule(), -2);
            due("is not ahead of the next rule's", say(x, "5").rule(), 0);
            due("FLOW", x.sluice(0, 5), 5);
            due("a < that was", say(x, "a<(b<").rule(), -6);
            due("is not behind the next one", say(x, "(2<3)+(1<2)<3").rule(), 0);
            due("FLOW", x.sluice(0, 5), 1);
        });
    }

    private static void basinAndSluice() {
        promise(7);
        holds("Of a BASIN, what 0: LEVEL, 1: MARK, 2: 1 if it is LEAKING, 3: SLUICES that go from it (bits), "
            + "4: SLUICES that go to it (bits).", () -> {
            LockLetters x = town("90.;05!;73.", "01g;12w;20s;01s;01g;01g;01g;02w");
            int[][] want = {{9, 0, 0, 0xF9, 4}, {0, 5, 1, 2, 0x79}, {7, 3, 0, 4, 0x82}};
            for (int i = 0; i < want.length; i++) {
                for (int what = 0; what <= 4; what++) {
                    due("basin(" + i + ", " + what + ")", x.basin(i, what), want[i][what]);
                }
            }
            due("none go from or to the only one", town("11.", "").basin(0, 3) + town("11.", "").basin(0, 4), 0);
        });
        holds("NoSuchElementException: none such, another what.", () -> {
            LockLetters x = town("90.;05!", "01g");
            due("basin(1, 4)", noBasin(x, 1, 4), false);
            due("one too far", noBasin(x, 2, 0), true);
            due("below 0", noBasin(x, -1, 0), true);
            due("what 5", noBasin(x, 0, 5), true);
            due("what -1", noBasin(x, 0, -1), true);
            for (int v : FAR_OFF) {
                due("basin " + v, noBasin(x, v, 0), true);
                due("what " + v, noBasin(x, 0, v), true);
            }
            LockLetters y = town(SIX_BASINS, "");
            due("5 of six", noBasin(y, 5, 0), false);
            due("6 of six", noBasin(y, 6, 0), true);
        });
        promise(8);
        holds("Of a SLUICE, what 0: from which BASIN, 1: to which, 2: KIND, 3: 1 if it is ON, 4: 1 if it is STUCK", () -> {
            LockLetters x = town("90.;05!;03.", "01g;12w;20s;01s");
            x.hours(1);
            x.sticks(1);
            int[][] want = {{0, 1, 0, 0, 0}, {1, 2, 1, 0, 1}, {2, 0, 2, 0, 0}, {0, 1, 2, 1, 0}};
            for (int i = 0; i < want.length; i++) {
                for (int what = 0; what <= 4; what++) {
                    due("sluice(" + i + ", " + what + ")", x.sluice(i, what), want[i][what]);
                }
            }
        });
        holds("5: FLOW now (whether it is OPEN or not).", () -> {
            LockLetters x = town("15.;30.", "01g;01w;01s;10g");
            due("a gate that is not OPEN", x.sluice(0, 5), 1);
            due("a weir that is not OPEN", x.sluice(1, 5), 1);
            due("a siphon that is not ON", x.sluice(2, 5), 1);
            x.sticks(3);
            due("a STUCK one", x.sluice(3, 5), 1);
            x.sheet(2, 2, 9, 0);
            due("no room", x.sluice(0, 5), 0);
            x.sheet(2, 2, 0, 0);
            due("none to go", x.sluice(0, 5), 0);
            due("nothing starts by it", x.count(6), 0);
        });
        holds("NoSuchElementException: likewise.", () -> {
            LockLetters x = town("90.;05!", "01g;10w");
            due("sluice(1, 5)", noSluice(x, 1, 5), false);
            due("one too far", noSluice(x, 2, 0), true);
            due("below 0", noSluice(x, -1, 0), true);
            due("what 6", noSluice(x, 0, 6), true);
            due("what -1", noSluice(x, 0, -1), true);
            for (int v : FAR_OFF) {
                due("sluice " + v, noSluice(x, v, 5), true);
                due("what " + v, noSluice(x, 0, v), true);
            }
            LockLetters y = town(SIX_BASINS, EIGHT_SLUICES);
            due("7 of eight", noSluice(y, 7, 5), false);
            due("8 of eight", noSluice(y, 8, 5), true);
        });
    }

    private static void dueSheet(int kind, int f, int want) {
        LockLetters x = town("50.", "");
        due("kind " + kind + " of " + f, x.sheet(kind, 1, f, 0), want);
        dueLevels("kind " + kind + " of " + f, x, want);
    }

    private static void sheet() {
        promise(9);
        holds("LEVELS of BASINS 0, 1, .., as a sheet tells them: bytes (kind 0), shorts (1), ints (2) of n entries f, f + step, ..", () -> {
            for (int kind = 0; kind <= 2; kind++) {
                LockLetters x = town(SIX_BASINS, "");
                due("six", x.sheet(kind, 6, 1, 1), 21);
                dueLevels("six", x, 1, 2, 3, 4, 5, 6);
                due("downwards", x.sheet(kind, 6, 8, -1), 33);
                dueLevels("downwards", x, 8, 7, 6, 5, 4, 3);
                due("one", x.sheet(kind, 1, 4, 1), 4);
                due("none", x.sheet(kind, 0, 4, 1), 0);
            }
            due("without BASINS", new LockLetters().sheet(2, 6, 9, 0), 0);
        });
        holds("(of bytes, shorts the lowest bits, with their sign;", () -> {
            int[] values = {261, 255, 127, 128, 256, -251, -256, 65541, 65535, 32767, 32768, -65531, Integer.MAX_VALUE, Integer.MIN_VALUE};
            int[] bytes = {5, 0, 9, 0, 0, 5, 0, 5, 0, 0, 0, 5, 0, 0};
            int[] shorts = {9, 9, 9, 9, 9, 0, 0, 5, 0, 9, 0, 5, 0, 0};
            int[] ints = {9, 9, 9, 9, 9, 0, 0, 9, 9, 9, 9, 0, 9, 0};
            for (int i = 0; i < values.length; i++) {
                dueSheet(0, values[i], bytes[i]);
                dueSheet(1, values[i], shorts[i]);
                dueSheet(2, values[i], ints[i]);
            }
            LockLetters x = town("11.;11.;11.", "");
            x.sheet(0, 3, 3, 128);
            dueLevels("bytes 3, -125, 3", x, 3, 0, 3);
            x.sheet(1, 3, 3, 32768);
            dueLevels("shorts 3, -32765, 3", x, 3, 0, 3);
            x.sheet(2, 3, 3, Integer.MIN_VALUE);
            dueLevels("ints 3, below 0, 3", x, 3, 0, 3);
            x.sheet(2, 3, Integer.MAX_VALUE, 1);
            dueLevels("ints that go round", x, 9, 0, 0);
        });
        holds("put to 0 .. 9)", () -> {
            for (int kind = 0; kind <= 2; kind++) {
                int[] values = {-100, -1, 0, 1, 8, 9, 10, 100};
                int[] levels = {0, 0, 0, 1, 8, 9, 9, 9};
                for (int i = 0; i < values.length; i++) {
                    dueSheet(kind, values[i], levels[i]);
                }
            }
        });
        holds("or a missing one (3): those behind it have 0", () -> {
            LockLetters x = town("77.;77.;77.", "");
            x.sheet(2, 1, 4, 1);
            dueLevels("one", x, 4, 0, 0);
            x.sheet(2, 3, 4, 1);
            x.sheet(0, 2, 4, 1);
            dueLevels("two", x, 4, 5, 0);
            x.sheet(1, 0, 4, 1);
            dueLevels("none", x, 0, 0, 0);
            due("MARKS are as they were", x.count(5), 21);
        });
        holds("the sum of all", () -> {
            LockLetters x = town("77.;77.", "");
            due("put to 0 .. 9", x.sheet(2, 2, 100, -200), 9);
            due("fewer than BASINS", x.sheet(2, 1, 6, 1), 6);
            due("LEVELS together, if there are more than BASINS", x.sheet(2, 6, 4, 1), 9);
            due("LEVELS together", x.count(4), 9);
            due("no more BASINS by it", x.count(0), 2);
        });
    }

    private static void sheetRefused() {
        holds("-2: n below 0 (of kinds 0 .. 2; nothing changes)", () -> {
            LockLetters x = town("72.;63.", "01g");
            x.hours(1);
            String was = allAndRow(x);
            for (int kind = 0; kind <= 2; kind++) {
                due("-1", x.sheet(kind, -1, 1, 1), -2);
                due("MIN", x.sheet(kind, Integer.MIN_VALUE, 1, 1), -2);
            }
            due("nothing changes", allAndRow(x), was);
        });
        holds("-3: missing (all 0)", () -> {
            for (int n : new int[] {0, 6, 2, -1, Integer.MIN_VALUE}) {
                LockLetters x = town("72.;63.", "01g");
                due("missing, " + n, x.sheet(3, n, 5, 1), -3);
                dueLevels("missing, " + n, x, 0, 0);
                due("MARKS", x.count(5), 5);
            }
        });
        holds("NONE: another kind, n above 6 (these first).", () -> {
            LockLetters x = town("72.;63.", "01g");
            String was = allAndRow(x);
            for (int kind = 0; kind <= 3; kind++) {
                due("7 of kind " + kind, x.sheet(kind, 7, 1, 1), -1);
                due("MAX of kind " + kind, x.sheet(kind, Integer.MAX_VALUE, 1, 1), -1);
            }
            for (int kind : new int[] {-1, 4, Integer.MIN_VALUE, Integer.MAX_VALUE}) {
                due("kind " + kind, x.sheet(kind, 2, 1, 1), -1);
                due("kind " + kind + ", n below 0", x.sheet(kind, -1, 1, 1), -1);
                due("kind " + kind + ", n above 6", x.sheet(kind, 7, 1, 1), -1);
            }
            due("nothing changes", allAndRow(x), was);
            due("6 is not above 6", x.sheet(2, 6, 1, 0), 2);
        });
    }
}
