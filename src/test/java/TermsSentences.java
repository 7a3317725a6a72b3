/** Sentences of 'Terms', and of the opening. */
final class TermsSentences extends Sentences {
    static void holdAll() {
        opening();
        uses();
        terms();
        basins();
        sluices();
        hourAndLost();
        ruleText();
        joinedThings();
        things();
        flow();
        openSluices();
        siphons();
        leaks();
        rows();
        questions();
        refused();
    }

    /** FLOW by a rule from a full basin into an empty one: what is told, put to 0 .. 9. */
    private static int value(String rule) {
        return town("90.;00.", "01g", rule).sluice(0, 5);
    }

    private static void dueValue(String rule, int want) {
        due(rule, value(rule), want);
    }

    private static void duePlace(String rule, int place) {
        due(rule, say(new LockLetters(), rule).rule(), -1 - place);
    }

    private static void uses() {
        holds("An object is used for at most 512 calls after it has been made", () -> {
            LockLetters x = new LockLetters();
            for (int call = 1; call < 512; call++) {
                x.hours(60);
            }
            due("the 512th call", x.count(2), 511 * 60);
        });
    }

    private static void basins() {
        holds("BASINS 0 .. (at most 6)", () -> {
            LockLetters x = new LockLetters();
            due("six", say(x, SIX_BASINS).basins(), 6);
            dueLevels("BASINS 0 .. 5", x, 0, 1, 2, 3, 4, 5);
            due("BASIN 6 is not there", noBasin(x, 6, 0), true);
            due("a seventh", say(x, "66.").basins(), -1);
            due("BASINS", x.count(0), 6);
            say(x, "05g").sluices();
            dueAnswers(x);
        });
        holds("LEVEL 0 .. 9 (as many parts of water)", () -> {
            String[] rules = {"999", "0-999", "a", "9-b", "1", "n*3"};
            for (String rule : rules) {
                LockLetters x = town("90.;80.;00.;40.", "01w;10w;12s;20g;03s;32w", rule);
                for (int h = 0; h < 12; h++) {
                    due(rule + ": no part of water is lost", x.hours(1), 21);
                    for (int i = 0; i < 4; i++) {
                        int level = x.basin(i, 0);
                        due(rule + ": LEVEL " + level, level >= 0 && level <= 9, true);
                    }
                }
            }
            LockLetters y = town("90.;00.", "");
            due("above 9", y.pours(0, 1), -2);
            due("below 0", y.lets(1, 1), -2);
            dueLevels("the least and the most", y, 9, 0);
        });
        holds("MARK 0 .. 9, LEAKING or not", () -> {
            LockLetters x = town("50.;59!", "");
            due("MARK 0", x.basin(0, 1), 0);
            due("MARK 9", x.basin(1, 1), 9);
            due("not LEAKING", x.basin(0, 2), 0);
            due("LEAKING", x.basin(1, 2), 1);
            x.hours(1);
            dueLevels("an hour later", x, 5, 4);
        });
        holds("They are told by a text of at most 23 signs", () -> {
            LockLetters x = new LockLetters();
            due("24 signs", say(x, SIX_BASINS + ";").basins(), -24);
            due("none came", x.count(0), 0);
            due("23 signs", say(x, SIX_BASINS).basins(), 6);
        });
        holds("at most 23 signs: LINES with ; between, each one more", () -> {
            LockLetters x = new LockLetters();
            due("; ahead", say(x, ";11.").basins(), -1);
            due("; behind", say(x, "11.;").basins(), -5);
            due("two ;", say(x, "11.;;11.").basins(), -5);
            due("no ;", say(x, "11.11.").basins(), -4);
            due("the sign ahead of ;", say(x, "11.:11.").basins(), -4);
            due("the sign behind ;", say(x, "11.<11.").basins(), -4);
            due("one LINE", say(x, "12.").basins(), 1);
            due("two LINES more", say(x, "34.;56!").basins(), 2);
            dueLevels("each one more", x, 1, 3, 5);
        });
        holds("two digits (LEVEL, MARK), . (not) or ! (LEAKING)", () -> {
            LockLetters x = new LockLetters();
            for (char sign : "/:a \u00b9".toCharArray()) {
                due("LEVEL " + sign, say(x, put("11.", 0, sign)).basins(), -1);
                due("MARK " + sign, say(x, put("11.", 1, sign)).basins(), -2);
            }
            for (char sign : "-/ \"1;x".toCharArray()) {
                due("LEAKING " + sign, say(x, put("11.", 2, sign)).basins(), -3);
            }
            due("09.;90!", say(x, "09.;90!").basins(), 2);
            due("the first", x.basin(0, 0) * 100 + x.basin(0, 1) * 10 + x.basin(0, 2), 90);
            due("the second", x.basin(1, 0) * 100 + x.basin(1, 1) * 10 + x.basin(1, 2), 901);
        });
    }

    private static void sluices() {
        holds("SLUICES 0 .. (at most 8)", () -> {
            LockLetters x = town(SIX_BASINS, "");
            due("eight", say(x, EIGHT_SLUICES).sluices(), 8);
            due("SLUICE 7", x.sluice(7, 0) * 10 + x.sluice(7, 1), 13);
            due("SLUICE 8 is not there", noSluice(x, 8, 0), true);
            due("a ninth", say(x, "01g").sluices(), -1);
            due("SLUICES", x.count(1), 8);
            dueAnswers(x);
        });
        holds("from a BASIN to another one", () -> {
            LockLetters x = town("11.;11.;11.", "");
            for (int from = 0; from < 3; from++) {
                for (int to = 0; to < 3; to++) {
                    LockLetters y = town("11.;11.;11.", "");
                    String line = "" + from + to + "g";
                    due(line, say(y, line).sluices(), from == to ? -2 : 1);
                }
            }
            due("the only one", say(town("11.", ""), "00g").sluices(), -2);
            due("from 2 to 0", say(x, "20g").sluices(), 1);
            due("from", x.sluice(0, 0), 2);
            due("to", x.sluice(0, 1), 0);
        });
        holds("of a KIND: 0 g (a gate), 1 w (a weir), 2 s (a siphon)", () -> {
            LockLetters x = town("13.;11.", "01g;01w;01s");
            due("g", x.sluice(0, 2), 0);
            due("w", x.sluice(1, 2), 1);
            due("s", x.sluice(2, 2), 2);
        });
        holds("ON or not (at first not), STUCK or not (at first not)", () -> {
            LockLetters x = town("90.;00.", "01s;01g");
            due("ON", x.count(6), 0);
            due("ON of the siphon", x.sluice(0, 3), 0);
            due("STUCK", x.count(7), 0);
            due("STUCK of the gate", x.sluice(1, 4), 0);
            x.hours(1);
            x.sticks(1);
            due("ON", x.sluice(0, 3), 1);
            due("STUCK", x.sluice(1, 4), 1);
            say(x, "01s").sluices();
            due("one more is not ON", x.sluice(2, 3), 0);
            due("one more is not STUCK", x.sluice(2, 4), 0);
            due("the others are as they were", x.count(6) * 10 + x.count(7), 12);
        });
        holds("They are told by a text of at most 31 signs", () -> {
            LockLetters x = town(SIX_BASINS, "");
            due("32 signs", say(x, EIGHT_SLUICES + ";").sluices(), -32);
            due("none came", x.count(1), 0);
            due("31 signs", say(x, EIGHT_SLUICES).sluices(), 8);
        });
        holds("at most 31 signs: LINES with ; between, each one more", () -> {
            LockLetters x = town("11.;11.", "");
            due("; ahead", say(x, ";01g").sluices(), -1);
            due("; behind", say(x, "01g;").sluices(), -5);
            due("two ;", say(x, "01g;;01g").sluices(), -5);
            due("no ;", say(x, "01g01g").sluices(), -4);
            due("the sign ahead of ;", say(x, "01g:01g").sluices(), -4);
            due("the sign behind ;", say(x, "01g<01g").sluices(), -4);
            due("one LINE", say(x, "01g").sluices(), 1);
            due("two LINES more", say(x, "10w;01s").sluices(), 2);
            due("each one more", x.sluice(0, 2) * 100 + x.sluice(1, 2) * 10 + x.sluice(2, 2), 12);
        });
        holds("two digits (BASINS that are there, not the same), a letter g, w or s", () -> {
            LockLetters x = town("11.;11.;11.", "");
            for (char sign : "/:3a ".toCharArray()) {
                due("from " + sign, say(x, put("01g", 0, sign)).sluices(), -1);
                due("to " + sign, say(x, put("01g", 1, sign)).sluices(), -2);
            }
            due("the same", say(x, "22g").sluices(), -2);
            for (char sign : "fhvxrtGWS0;".toCharArray()) {
                due("a letter " + sign, say(x, put("01g", 2, sign)).sluices(), -3);
            }
            due("none came", x.count(1), 0);
        });
    }

    private static void hourAndLost() {
        holds("HOUR (at first 0)", () -> {
            LockLetters x = new LockLetters();
            due("HOUR", x.count(2), 0);
            x.hours(1);
            due("HOUR", x.count(2), 1);
        });
        holds("LOST 0 .. 9999 (at first 0)", () -> {
            due("LOST", new LockLetters().count(3), 0);
            LockLetters x = allLost();
            due("LOST", x.count(3), 9999);
            x.sheet(2, 6, 9, 0);
            x.hours(1);
            due("LOST at most", x.count(3), 9999);
        });
    }

    private static void ruleText() {
        String forty = "-1" + times(19, "+1");
        holds("THE RULE is a text of at most 40 signs", () -> {
            dueValue("12+" + times(18, "1*") + "0", 9);
            due("40 signs", say(new LockLetters(), forty).rule(), 0);
            due("41 signs", say(new LockLetters(), forty + "1").rule(), -41);
        });
        holds("(at first none: 1+(a-b>4))", () -> {
            int[][] flows = {{9, 4, 2}, {9, 5, 1}, {5, 0, 2}, {4, 0, 1}, {1, 8, 1}, {6, 2, 1}, {7, 2, 2}};
            for (int[] f : flows) {
                LockLetters x = town("" + f[0] + "0.;" + f[1] + "0.", "01g");
                due("FLOW from " + f[0] + " to " + f[1], x.sluice(0, 5), f[2]);
            }
        });
    }

    private static void joinedThings() {
        holds("EXPRESSION: < > = bind least", () -> {
            dueValue("1+1<3", 1);
            dueValue("4-1>2", 1);
            dueValue("2*1=2", 1);
            dueValue("3=1+2", 1);
            dueValue("-1<0", 1);
            dueValue("2<8/2", 1);
        });
        holds("(two; 1 or 0; not one behind the other)", () -> {
            String[] ones = {"1<2", "2>1", "2=2", "0<999", "0-1<0"};
            String[] zeros = {"2<2", "2<1", "2>2", "1>2", "1=2", "2=1"};
            for (String rule : ones) {
                dueValue("3+(" + rule + ")*2", 5);
            }
            for (String rule : zeros) {
                dueValue("3+(" + rule + ")*2", 3);
            }
            duePlace("a<", 2);
            duePlace("<a", 0);
            String joins = "<>=";
            for (char one : joins.toCharArray()) {
                for (char other : joins.toCharArray()) {
                    duePlace("a" + one + "b" + other + "m", 3);
                    duePlace("a" + one + other + "m", 2);
                    duePlace("a" + one + "b*2+1" + other + "m", 7);
                    duePlace("(a" + one + "b" + other + "m)", 4);
                    duePlace("a" + one + "(b" + other + "m)" + one + "1", 7);
                }
            }
            dueValue("(1<2)<2", 1);
            dueValue("2>(2>1)", 1);
            dueValue("(1<2)=(2>1)", 1);
            dueValue("(2=2)+(3=3)=2", 1);
        });
        holds("then + - (from the left)", () -> {
            dueValue("9-3-2", 4);
            dueValue("9-3+2", 8);
            dueValue("1+5-2-3", 1);
            dueValue("0-5+7", 2);
        });
        holds("then * / (from the left; by 0: 0; cut to 0)", () -> {
            dueValue("1+2*3", 7);
            dueValue("9-6/2", 6);
            dueValue("8/4/2", 1);
            dueValue("6/2*3", 9);
            dueValue("2*3/4", 1);
            dueValue("7/0", 0);
            dueValue("0/0+2", 2);
            dueValue("7/(1-1)+3", 3);
            dueValue("4+7/0*2", 4);
            dueValue("7/2", 3);
            dueValue("-7/2+5", 2);
            dueValue("7/-2+5", 2);
            dueValue("-7/-2", 3);
            dueValue("-1/2+5", 5);
        });
        holds("then - ahead of a thing (any many)", () -> {
            dueValue("-4+9", 5);
            dueValue("--4", 4);
            dueValue("---4+9", 5);
            dueValue("5--3", 8);
            dueValue("5---3", 2);
            dueValue("2*-3+9", 3);
            dueValue("-(3)+9", 6);
            dueValue("--(1+2)", 3);
            dueValue("-b+-m+6", 6);
            dueValue("0>-1", 1);
            dueValue(times(38, "-") + "7", 7);
            dueValue("9" + times(38, "-") + "7", 9);
            dueValue("9" + times(37, "-") + "7", 2);
            duePlace("-", 1);
            duePlace("--", 2);
            duePlace("+1", 0);
            duePlace("1*/2", 2);
            duePlace("1-+2", 2);
        });
    }

    private static void things() {
        holds("things: a NUMBER of 1 to 3 digits", () -> {
            dueValue("7", 7);
            dueValue("07", 7);
            dueValue("008", 8);
            dueValue("010-3", 7);
            dueValue("100/50", 2);
            dueValue("999-998", 1);
            duePlace("1000", 3);
            duePlace("0000", 3);
            duePlace("1+2345", 5);
            duePlace("12 3", 2);
            duePlace("1.5", 1);
        });
        holds("an EXPRESSION in ( ) (at most 4 in one another)", () -> {
            dueValue("(1+2)*3", 9);
            dueValue("((((5))))", 5);
            dueValue("((((1))))+((((2))))", 3);
            dueValue("(1)+(1)+(1)+(1)+(1)+(1)", 6);
            dueValue("9-(4-(3-(2-(1))))", 7);
            duePlace("(((((5)))))", 4);
            duePlace("((((1)+((", 8);
            duePlace("1+((((2+(", 8);
            duePlace("()", 1);
            duePlace(")", 0);
            duePlace("(1))", 3);
            duePlace("(1", 2);
            duePlace("((1)", 4);
            duePlace("(1)(2)", 3);
            duePlace("2(3)", 1);
            duePlace("(2)3", 3);
            duePlace("(2)a", 3);
        });
        holds("and, of a SLUICE: a LEVEL of the BASIN from which it goes, b LEVEL of that to which it goes, "
            + "m MARK of the first, k MARK of the second, s its number, t its KIND", () -> {
            LockLetters x = town("00.;97.;35.", "12g;01g;12s");
            String[] rules = {"a-4", "b", "m-2", "k-1", "s", "t"};
            int[] first = {5, 3, 5, 4, 0, 0};
            int[] third = {5, 3, 5, 4, 2, 2};
            for (int i = 0; i < rules.length; i++) {
                due(rules[i], withRule(x, rules[i]).sluice(0, 5), first[i]);
                due(rules[i], withRule(x, rules[i]).sluice(2, 5), third[i]);
            }
            due("t of a weir", town("90.;00.", "01w", "t").sluice(0, 5), 1);
            for (char sign : "cdefghijlopqruvwxyzABMKSTN_'`".toCharArray()) {
                duePlace("" + sign, 0);
            }
            duePlace("ab", 1);
            duePlace("a1", 1);
            duePlace("1a", 1);
        });
        holds("n HOUR by 4 (rest)", () -> {
            LockLetters x = town("90.;00.", "01g", "0");
            for (int h = 0; h < 9; h++) {
                due("n in HOUR " + h, withRule(x, "n").sluice(0, 5), h % 4);
                withRule(x, "0").hours(1);
            }
        });
    }

    private static void flow() {
        holds("As ints", () -> {
            String most = "512*512*512*16";
            dueValue(most, 0);
            dueValue(most + "<0", 1);
            dueValue(most + "-1", 9);
            dueValue(most + "*2", 0);
            dueValue(most + "*2+3", 3);
            dueValue(most + "/-1", 0);
            dueValue(most + "/-1-1", 9);
            dueValue("-(" + most + ")-1", 9);
            dueValue("999*999*999", 9);
        });
        holds("put to 0 .. the least of a and 9 less b: FLOW", () -> {
            for (int a = 0; a <= 9; a++) {
                for (int b = 0; b <= 9; b++) {
                    int least = Math.min(a, 9 - b);
                    LockLetters x = town("" + a + "0.;" + b + "0.", "01g");
                    due(a + " " + b + " 0-1", withRule(x, "0-1").sluice(0, 5), 0);
                    due(a + " " + b + " 2", withRule(x, "2").sluice(0, 5), Math.min(2, least));
                    due(a + " " + b + " 999", withRule(x, "999").sluice(0, 5), least);
                }
            }
        });
    }

    private static void openSluices() {
        holds("An HOUR goes by: (1) SLUICES by their numbers, each as all is then", () -> {
            LockLetters x = town("90.;00.;00.", "01w;12w", "1");
            x.hours(1);
            dueLevels("the second finds what the first sent", x, 8, 0, 1);
            LockLetters y = town("90.;00.;00.", "12w;01w", "1");
            y.hours(1);
            dueLevels("the first finds nothing", y, 8, 1, 0);
            LockLetters z = town("50.;00.", "01w;01w", "a-b");
            z.hours(1);
            dueLevels("the rule, too, by what is then", z, 0, 5);
        });
        holds("a STUCK one does nothing", () -> {
            for (String line : new String[] {"01g", "01w", "01s"}) {
                LockLetters x = town("90.;00.", line);
                x.sticks(0);
                due(line, x.hours(3), 9);
                dueLevels(line, x, 9, 0);
                due(line + " is not ON", x.count(6), 0);
            }
            LockLetters y = town("53.;00.", "01s");
            y.hours(1);
            y.sticks(0);
            y.lets(0, y.basin(0, 0));
            y.hours(2);
            due("one that was ON stays so, though a is 0", y.count(6), 1);
            y.sticks(0);
            y.hours(1);
            due("till it is STUCK no more", y.count(6), 0);
        });
        holds("a gate is OPEN, if a is above b", () -> {
            LockLetters x = town("40.;40.", "01g", "1");
            x.hours(1);
            dueLevels("as high", x, 4, 4);
            x.lets(0, 1);
            x.hours(1);
            dueLevels("below", x, 3, 4);
            x.pours(0, 2);
            x.hours(1);
            dueLevels("one above", x, 4, 5);
        });
        holds("a weir, if a is above m", () -> {
            LockLetters x = town("44.;80.", "01w", "1");
            x.hours(1);
            dueLevels("at its MARK", x, 4, 8);
            x.pours(0, 1);
            x.hours(1);
            dueLevels("one above, though b is higher", x, 4, 9);
            x.sheet(2, 2, 3, 0);
            x.hours(1);
            dueLevels("below", x, 3, 3);
            LockLetters y = town("99.;00.", "01w", "1");
            y.hours(1);
            dueLevels("nothing is above 9", y, 9, 0);
        });
        holds("If it is OPEN, FLOW goes from the one BASIN to the other one.", () -> {
            LockLetters x = town("90.;30.;00.", "01w;12w", "9");
            x.hours(1);
            dueLevels("no more than there is room for, then all of it", x, 3, 0, 9);
            LockLetters y = town("20.;00.", "01w", "9");
            y.hours(1);
            dueLevels("no more than there is", y, 0, 2);
            LockLetters z = town("20.;00.", "01w", "0-9");
            z.hours(1);
            dueLevels("never backwards", z, 2, 0);
        });
    }

    private static void siphons() {
        holds("a siphon: it is ON from when a is m or more (asked first; m 0, too)", () -> {
            LockLetters x = town("35.;00.", "01s", "1");
            x.hours(1);
            due("below m", x.count(6), 0);
            x.pours(0, 1);
            x.hours(1);
            due("one below m", x.count(6), 0);
            dueLevels("one below m", x, 4, 0);
            x.pours(0, 1);
            x.hours(1);
            due("at m", x.count(6), 1);
            dueLevels("at m", x, 4, 1);
            LockLetters y = town("95.;00.", "01s", "1");
            y.hours(1);
            due("above m", y.count(6), 1);
            LockLetters z = town("10.;00.", "01s", "0");
            z.hours(1);
            due("m 0", z.count(6), 1);
        });
        holds("till a is 0 (asked next: then it is not ON)", () -> {
            LockLetters x = town("33.;00.", "01s", "1");
            x.hours(2);
            dueLevels("below m it goes on", x, 1, 2);
            due("below m it goes on", x.count(6), 1);
            x.hours(1);
            dueLevels("all went", x, 0, 3);
            due("0 was not asked yet", x.count(6), 1);
            x.hours(1);
            due("0 was asked", x.count(6), 0);
            x.pours(0, 2);
            x.hours(1);
            dueLevels("it does not start again below m", x, 2, 3);
            LockLetters y = town("00.;00.", "01s", "0");
            y.hours(1);
            due("m 0 and a 0: ON, and then not", y.count(6), 0);
        });
        holds("it is OPEN, if it is ON", () -> {
            LockLetters x = town("25.;80.", "01s", "1");
            x.hours(1);
            dueLevels("not ON: not OPEN", x, 2, 8);
            x.marks(0, 2);
            x.hours(1);
            dueLevels("ON: OPEN, though b is higher", x, 1, 9);
        });
    }

    private static void leaks() {
        holds("(2) each LEAKING BASIN with LEVEL above 0 has 1 less, LOST is 1 more (9999 at most)", () -> {
            LockLetters x = town("20!;10!;00!;30.", "");
            due("an hour", x.hours(1), 4);
            dueLevels("an hour", x, 1, 0, 0, 3);
            due("LOST", x.count(3), 2);
            x.hours(1);
            due("LOST", x.count(3), 3);
            x.hours(1);
            due("LOST no more", x.count(3), 3);
            LockLetters y = town("10!;00!", "01g", "1");
            y.hours(1);
            dueLevels("behind the SLUICES", y, 0, 0);
            due("it leaks where it came to", y.count(3), 1);
            LockLetters z = allLost();
            z.sheet(2, 2, 5, 0);
            z.hours(1);
            dueLevels("it leaks on", z, 4, 4, 0, 0, 0, 0);
            due("LOST at most", z.count(3), 9999);
        });
        holds("(3) HOUR is 1 more.", () -> {
            LockLetters x = town("90.;00.", "01g", "n");
            x.hours(1);
            dueLevels("by n of the HOUR that goes by", x, 9, 0);
            due("HOUR", x.count(2), 1);
            x.hours(1);
            dueLevels("by n 1", x, 8, 1);
            due("HOUR", x.count(2), 2);
        });
    }

    private static void rows() {
        holds("ROW: numbers told last by a call that says so.", () -> {
            LockLetters x = town("50.;00.", "01g");
            dueRow("spoils()", x, 1, 10);
            x.pours(1, 1);
            x.lets(1, 1);
            x.boats(0);
            x.sticks(0);
            x.marks(1, 1);
            x.undo();
            x.saw(0, 0, 4);
            x.forget();
            x.keep(0);
            x.again(0);
            x.count(4);
            x.basin(0, 0);
            x.sluice(0, 5);
            x.sheet(2, 2, 1, 0);
            withRule(x, "1");
            say(x, "11.").basins();
            say(x, "12g").sluices();
            dueRow("calls that do not say so", x, 1, 10);
            x.locks(0, 0);
            dueRow("nothing", x);
            x.hours(0);
            dueRow("hours()", x, 0, 0);
            x.reach(0);
            dueRow("reach()", x, 1);
        });
        holds("Rows of numbers are compared from the first on.", () -> {
            LockLetters x = town("00.;00.;00.;00.;00.", "01g;02g;24g;34g;13g;14g;41g");
            due("way", x.way(0, 4), 2);
            dueRow("0 5 is less than 1 2", x, 0, 5);
            due("ring", x.ring(), 2);
            dueRow("ring", x, 5, 6);
            LockLetters y = town("10.;00.;00.;00.", "12g;01w;03w;23g");
            due("order", y.order(), 3);
            dueRow("1 0 2 3 is less than 1 0 3 2", y, 1, 0, 2, 3);
        });
        holds("Sets (of BASINS, SLUICES) are bits.", () -> {
            LockLetters x = town("90.;00.;09.;00.;00.;90.", EIGHT_SLUICES);
            due("SLUICES from 1", x.basin(1, 3), 1 << 1 | 1 << 7);
            due("SLUICES to 2", x.basin(2, 4), 1 << 1 | 1 << 6);
            due("the last SLUICE is STUCK", x.sticks(7), 1 << 7);
            due("BASINS at their MARK", x.count(8), 63 - (1 << 2));
            due("reach", x.reach(3), 63);
        });
        holds("Fractions are told in lowest terms, upper and lower number (0 by 1).", () -> {
            LockLetters x = new LockLetters();
            x.spoils(1, 1, 2);
            dueRow("2 by 10", x, 1, 5);
            x.spoils(2, 1, 5);
            dueRow("25 by 100", x, 1, 4);
            x.spoils(1, 1, 3);
            dueRow("3 by 10", x, 3, 10);
            x.spoils(1, 1, 10);
            dueRow("10 by 10", x, 1, 1);
            x.spoils(1, 1, 0);
            dueRow("0 by 10", x, 0, 1);
            x.spoils(12, 1, 0);
            dueRow("0", x, 0, 1);
        });
    }

    private static LockLetters busyTown() {
        LockLetters x = town("90.;05!;23.;18!", "01g;12w;20s;23g;30w");
        x.hours(2);
        x.sticks(1);
        x.keep(0);
        x.pours(2, 3);
        x.keep(1);
        x.marks(0, 4);
        x.saw(0, 0, x.basin(0, 0));
        return x;
    }

    private static void questions() {
        holds("Questions change nothing.", () -> {
            LockLetters x = busyTown();
            LockLetters y = busyTown();
            say(x, "n1p11");
            say(y, "n1p11");
            ask(x);
            due("all but the ROW", all(x), all(y));
            due("THE TEXT", x.night(), y.night());
            dueSameRest(x, y);
        });
        holds("What is asked of hours to come is asked as if nothing were done.", () -> {
            for (int h = 0; h <= 6; h++) {
                LockLetters x = busyTown();
                LockLetters y = busyTown();
                y.hours(h);
                for (int i = 0; i < 4; i++) {
                    due("LEVEL in " + h, x.later(i, h), y.basin(i, 0));
                    due("LEVEL in " + h + ", asked again", x.later(i, h), y.basin(i, 0));
                }
                dueRow("in " + h, x, y.count(4), y.count(6));
            }
        });
    }

    /** A full town answers every question, and is as it was. */
    private static void dueAnswers(LockLetters x) {
        String was = all(x);
        ask(x);
        x.law();
        due("as it was", all(x), was);
    }

    /** Every question that can be answered, but law(), which empties THE TEXT. */
    private static void ask(LockLetters x) {
        x.basin(0, 0);
        x.sluice(0, 5);
        x.later(0, 50);
        x.marked(1);
        x.round();
        x.still();
        x.busiest(20);
        x.high(20);
        x.table(0, 1, 2, 7);
        x.quarters(0, 3);
        x.learns(0, 1, 2, 8);
        x.words(0, 2, 5);
        x.hears(0, 5);
        x.drought(0, 2, 5);
        x.fits();
        x.looks();
        x.needs(2, 9);
        x.count(5);
        x.count(8);
        x.reach(0);
        x.way(0, 3);
        x.cut(0, 3);
        x.ring();
        x.order();
        x.locks(3, 4);
        x.spoils(3, 2, 5);
        x.rests(7);
        x.years(5, 60);
        x.count(4);
        x.row(0);
    }

    /** What can be undone, what was kept, and how it goes on. */
    static void dueSameRest(LockLetters x, LockLetters y) {
        for (int i = 0; i < 4; i++) {
            due("undo()", x.undo(), y.undo());
            due("all behind undo()", all(x), all(y));
        }
        for (int i = 0; i < 2; i++) {
            due("again()", x.again(i), y.again(i));
            due("hours()", x.hours(7), y.hours(7));
            due("all behind again()", all(x), all(y));
        }
        due("fits()", x.fits(), y.fits());
        due("fits()", rowOf(x), rowOf(y));
    }

    private static void refused() {
        holds("Refused calls answer NONE, or false, and change nothing", () -> {
            for (int v : FAR_OFF) {
                LockLetters x = busyTown();
                LockLetters y = busyTown();
                say(x, "abcd");
                say(y, "abcd");
                refusedCalls(x, v);
                due("all", allAndRow(x), allAndRow(y));
                dueSameRest(x, y);
            }
        });
        holds("but THE TEXT, which a call that reads it empties.", () -> {
            LockLetters x = busyTown();
            LockLetters y = busyTown();
            due("basins()", say(x, "11.;x").basins(), -5);
            due("signs", x.count(12), 0);
            due("sluices()", say(x, "01g;x").sluices(), -5);
            due("signs", x.count(12), 0);
            due("rule()", say(x, "1+").rule(), -3);
            due("signs", x.count(12), 0);
            due("night()", say(x, "n1x").night(), -3);
            due("signs", x.count(12), 0);
            due("law()", say(x, "1+").law(), -10002);
            due("signs", x.count(12), 0);
            due("all", allAndRow(x), allAndRow(y));
            due("basins(), not refused", say(x, "11.").basins(), 1);
            due("signs", x.count(12), 0);
            due("rule(), not refused", say(x, "1").rule(), 0);
            due("signs", x.count(12), 0);
            due("night(), not refused", say(x, "n1").night(), 1);
            due("signs", x.count(12), 0);
            due("law(), not refused", say(x, "1").law(), 0);
            due("signs", x.count(12), 0);
        });
    }

    /** Calls that are refused, whatever their other arguments are; v is far off. */
    private static void refusedCalls(LockLetters x, int v) {
        due("end", x.end(v), false);
        due("sheet", x.sheet(v, 1, 1, 1), -1);
        due("sheet", x.sheet(0, v < 0 ? 7 : v, 1, 1), -1);
        due("hours", x.hours(v), -1);
        due("pours", x.pours(v, 1), -1);
        due("pours", x.pours(0, v), -1);
        due("lets", x.lets(v, 1), -1);
        due("lets", x.lets(0, v), -1);
        due("boats", x.boats(v), -1);
        due("sticks", x.sticks(v), -1);
        due("marks", x.marks(v, 1), -1);
        due("marks", x.marks(0, v), -1);
        due("later", x.later(v, 1), -1);
        due("later", x.later(0, v), -1);
        due("marked", x.marked(v), -1);
        due("busiest", x.busiest(v), -1);
        due("high", x.high(v), -1);
        due("table", x.table(v, 1, 2, 1), -1);
        due("table", x.table(0, v, 2, 1), -1);
        due("table", x.table(0, 1, v, 1), -1);
        due("table", x.table(0, 1, 2, v), -1);
        due("quarters", x.quarters(v, 1), -1);
        due("quarters", x.quarters(1, v), -1);
        due("learns", x.learns(v, 1, 2, 1), -1);
        due("learns", x.learns(0, 1, 2, v), -1);
        due("words", x.words(0, v, 1), -1);
        due("words", x.words(0, 1, v), -1);
        due("hears", x.hears(v, 1), -1);
        due("hears", x.hears(0, v), -1);
        due("drought", x.drought(0, v, 1), -1);
        due("drought", x.drought(0, 1, v), -1);
        due("saw", x.saw(v, 1, 1), -1);
        due("saw", x.saw(0, v, 1), -1);
        due("saw", x.saw(0, 1, v), -1);
        due("needs", x.needs(v, 1), -1);
        due("needs", x.needs(0, v), -1);
        due("reach", x.reach(v), -1);
        due("way", x.way(v, 0), -1);
        due("cut", x.cut(0, v), -1);
        due("locks", x.locks(v, 1), -1);
        due("spoils", x.spoils(v, 1, 1), -1);
        due("rests", x.rests(v), -1);
        due("years", x.years(1, v), -1);
        due("keep", x.keep(v), false);
        due("again", x.again(v), false);
        due("count", x.count(v), -1);
    }
}
