/** Sentences of the promises 39 to 42: order of boats, locks by turns, chances, rests. */
final class GameSentences extends Sentences {
    static void holdAll() {
        order();
        locks();
        spoils();
        rests();
    }

    private static void order() {
        promise(39);
        holds("A boat goes through each SLUICE once, in some order; one that can't then (as boats()) does not: the most that do: how many", () -> {
            due("the second first", town("10.;00.;00.", "12g;01w").order(), 2);
            due("none to go", town("00.;00.", "01g").order(), 0);
            due("no room", town("90.;90.", "01g").order(), 0);
            due("one", town("10.;80.", "01g").order(), 1);
            due("each once alone", town("90.;00.", "01g").order(), 1);
            due("one of two", town("10.;00.", "01g;01w").order(), 1);
            due("room is made", town("90.;90.;00.", "01g;12w").order(), 2);
            LockLetters x = town("10.;00.;00.", "12g;01w");
            x.sticks(0);
            due("STUCK, too", x.order(), 2);
            dueLevels("none goes by asking", x, 1, 0, 0);
            due("no SLUICES", new LockLetters().order(), 0);
        });
        holds("the ROW: the order of all SLUICES (of as good ones the least row)", () -> {
            LockLetters x = town("10.;00.;00.", "12g;01w");
            x.order();
            dueRow("the second first", x, 1, 0);
            LockLetters none = town("00.;00.;00.", "12g;01w;20s");
            none.order();
            dueRow("those that can't, too", none, 0, 1, 2);
            LockLetters all = town("90.;90.;90.", "01g;12g;20g");
            all.order();
            dueRow("no room anywhere", all, 0, 1, 2);
            LockLetters last = town("10.;00.;00.;00.;00.;00.", "50g;45g;34g;23g;12g;01g");
            due("by the last order of all alone", last.order(), 6);
            dueRow("by the last order of all alone", last, 5, 4, 3, 2, 1, 0);
            LockLetters some = town("10.;00.;00.", "01g;02g;10w");
            due("there and back", some.order(), 3);
            dueRow("0 2 1 ahead of 1 ..", some, 0, 2, 1);
            due("asked again", none.order(), 0);
            dueRow("asked again", none, 0, 1, 2);
            due("asked again", last.order(), 6);
            dueRow("asked again", last, 5, 4, 3, 2, 1, 0);
            LockLetters empty = town("", "");
            empty.order();
            dueRow("no SLUICES", empty);
        });
        holds("(Of more than 6 SLUICES the first 6 alone.)", () -> {
            LockLetters x = town("00.;00.;50.", "01g;01g;01g;01g;01g;01g;20g");
            due("the seventh could go", x.order(), 0);
            dueRow("the first six", x, 0, 1, 2, 3, 4, 5);
            LockLetters y = town("10.;00.;00.;00.;00.;00.", "50g;45g;34g;23g;12g;01g;01w;01s");
            due("six of eight", y.order(), 6);
            dueRow("six of eight", y, 5, 4, 3, 2, 1, 0);
            LockLetters z = town("90.;00.", "01g;01g;01g;01g;01g;01g");
            due("six of six", z.order(), 6);
        });
    }

    private static void locks() {
        promise(40);
        holds("Two open locks by turns out of two stairs of a and b (0 .. 20): one of each stair, or two of one; "
            + "who can't has lost: 1 if the first one wins by best play, else 0", () -> {
            LockLetters x = new LockLetters();
            due("0, 0", x.locks(0, 0), 0);
            due("1, 0", x.locks(1, 0), 0);
            due("0, 1", x.locks(0, 1), 0);
            due("1, 1", x.locks(1, 1), 1);
            due("2, 0", x.locks(2, 0), 1);
            due("0, 2", x.locks(0, 2), 1);
            due("2, 1", x.locks(2, 1), 1);
            due("2, 2", x.locks(2, 2), 0);
            due("20, 20", x.locks(20, 20), 0);
            due("20, 19", x.locks(20, 19), 1);
            due("19, 20", x.locks(19, 20), 1);
            due("20, 0", x.locks(20, 0), 0);
            due("0, 20", x.locks(0, 20), 0);
        });
        holds("the ROW: the least move by which he does (of the first, of the second; nothing without)", () -> {
            LockLetters x = town("", "");
            x.locks(1, 1);
            dueRow("1, 1", x, 1, 1);
            x.locks(2, 0);
            dueRow("2, 0", x, 2, 0);
            x.locks(0, 2);
            dueRow("0, 2", x, 0, 2);
            x.locks(3, 3);
            dueRow("3, 3: each does, the least", x, 0, 2);
            x.locks(18, 1);
            dueRow("18, 1", x, 1, 1);
            x.locks(18, 0);
            dueRow("18, 0", x, 2, 0);
            x.locks(20, 19);
            dueRow("20, 19", x, 0, 2);
            x.locks(0, 0);
            dueRow("he can't", x);
            x.locks(1, 1);
            x.locks(2, 2);
            dueRow("he does not win", x);
        });
        holds("NONE: others.", () -> {
            LockLetters x = town("", "");
            due("21, 0", x.locks(21, 0), -1);
            due("0, 21", x.locks(0, 21), -1);
            due("-1, 0", x.locks(-1, 0), -1);
            due("0, -1", x.locks(0, -1), -1);
            for (int v : FAR_OFF) {
                due("a " + v, x.locks(v, 1), -1);
                due("b " + v, x.locks(1, v), -1);
            }
            dueUntold("refused", x);
        });
    }

    private static void spoils() {
        promise(41);
        holds("A boat spoils a word by p tenths (0 .. 10), each by itself: how likely the k-th one that does (1 .. 12) is just the n-th boat (1 .. 12): 0", () -> {
            LockLetters x = new LockLetters();
            due("the first", x.spoils(1, 1, 1), 0);
            dueRow("the first", x, 1, 10);
            due("the last", x.spoils(12, 12, 10), 0);
            dueRow("the last, by 10 tenths", x, 1, 1);
            due("not sooner than it can be", x.spoils(11, 12, 10), 0);
            dueRow("not sooner than it can be", x, 0, 1);
            x.spoils(1, 12, 5);
            dueRow("1 of 12", x, 0, 1);
            x.spoils(2, 1, 10);
            dueRow("the second is not the first, by 10 tenths", x, 0, 1);
            x.spoils(12, 12, 0);
            dueRow("by 0 tenths", x, 0, 1);
            x.spoils(1, 1, 0);
            dueRow("by 0 tenths", x, 0, 1);
        });
        holds("the ROW: the fraction", () -> {
            LockLetters x = new LockLetters();
            x.spoils(12, 12, 1);
            dueRow("1 by 10 to the 12th", x, 1, 1000000000000L);
            x.spoils(12, 1, 1);
            dueRow("9 to the 11th", x, 31381059609L, 1000000000000L);
            x.spoils(12, 6, 5);
            dueRow("462 by 4096", x, 231, 2048);
            x.spoils(12, 12, 9);
            dueRow("9 to the 12th", x, 282429536481L, 1000000000000L);
            x.spoils(3, 2, 5);
            dueRow("2 by 8", x, 1, 4);
            x.spoils(4, 2, 2);
            dueRow("3 times 4 times 64 by 10000", x, 48, 625);
        });
        holds("NONE: others.", () -> {
            LockLetters x = town("", "");
            int[][] none = {{0, 1, 1}, {13, 1, 1}, {1, 0, 1}, {1, 13, 1}, {1, 1, -1}, {1, 1, 11}, {-1, 1, 1}, {1, -1, 1}};
            for (int[] w : none) {
                due("spoils(" + w[0] + ", " + w[1] + ", " + w[2] + ")", x.spoils(w[0], w[1], w[2]), -1);
            }
            for (int v : FAR_OFF) {
                due("n " + v, x.spoils(v, 1, 1), -1);
                due("k " + v, x.spoils(1, v, 1), -1);
                due("p " + v, x.spoils(1, 1, v), -1);
            }
            dueUntold("refused", x);
        });
    }

    private static void rests() {
        promise(42);
        // Who is not level would have more by being level, or nothing to pay at 0; and level ones at x rest
        // while the half of v is no less than what each pays: so the pairs are 0 and 0, 1 and 1, ..
        holds("Two keepers leave their water at x and y (0 .. 9); if they are level, each has v (0 .. 20) by 2 (cut), "
            + "else who is higher has v by 4 (cut); each pays half of its own (cut up).", () -> {
            LockLetters x = new LockLetters();
            int[] pairs = {1, 1, 3, 3, 5, 5, 7, 7, 9, 9, 10, 10, 10, 10, 10, 10, 10, 10, 10, 10, 10};
            for (int v = 0; v <= 20; v++) {
                due("v " + v, x.rests(v), pairs[v]);
            }
        });
        holds("Pairs by which neither would have more by another number alone: how many", () -> {
            LockLetters x = new LockLetters();
            due("nothing to have: 0 and 0 alone", x.rests(0), 1);
            due("1 by 2 is cut to 0", x.rests(1), 1);
            due("what is as much is not more: 1 and 1 pay all they have", x.rests(2), 3);
            due("all level pairs", x.rests(20), 10);
        });
        holds("the ROW: the least (nothing without)", () -> {
            LockLetters x = town("", "");
            for (int v = 0; v <= 20; v++) {
                x.spoils(1, 1, 1);
                x.rests(v);
                dueRow("v " + v, x, 0, 0);
            }
        });
        holds("NONE: another v.", () -> {
            LockLetters x = town("", "");
            due("-1", x.rests(-1), -1);
            due("21", x.rests(21), -1);
            for (int v : FAR_OFF) {
                due("" + v, x.rests(v), -1);
            }
            dueUntold("refused", x);
        });
    }
}
