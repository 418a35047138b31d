/** Promises 15 to 19, sentence by sentence. */
final class EdgesOfDeeds {
    private static final int NOTHING = 1;
    private static final String CARD = "010203040506";
    private static final String FOUR = "p" + CARD + "d" + CARD + "l" + CARD + "s" + CARD;
    private static final int MOST = 40;

    private EdgesOfDeeds() {
    }

    static void all() {
        call();
        callRefused();
        rub();
        rubRefused();
        undo();
        undoRefused();
        keep();
        on();
        keptRefused();
    }

    /** A hall of one with so many deeds, none of them a call. */
    static CalledNumbers rubbed(int deeds) {
        CalledNumbers x = Checks.hallOf("p" + CARD);
        for (int k = 0; k < deeds; k++) {
            x.rub(0, 5);
        }
        return x;
    }

    private static void call() {
        Doc.says(15, "A CALL of a NUMBER (1 .. 12): PLAYERS (bits) who have WON then and had not.");
        CalledNumbers x = Checks.hallOf("p" + CARD + "p121110090807" + "h" + CARD + "p020304070809");
        int[] numbers = {1, 12, 2, 11, 10, 4, 3, 5, 6, 7, 8, 9};
        int[] winners = {0, 0, 0, 0, 2, 0, 1 | 4 | 8, 0, 0, 0, 0, 0};
        for (int k = 0; k < numbers.length; k++) {
            Checks.due("call " + k, x.call(numbers[k]), winners[k]);
            Checks.due("the number called last", x.count(4), numbers[k]);
            Checks.due("the next call", x.count(1), k + 1);
        }
        Checks.due("the bag is empty", x.count(3), 0);
        CalledNumbers all = Checks.hallOf(("p" + CARD).repeat(4));
        all.call(4);
        all.call(6);
        Checks.due("all four at once", all.call(5), 15);
        Checks.due("none of them once more", all.call(1), 0);
    }

    private static void callRefused() {
        CalledNumbers none = new CalledNumbers();
        CalledNumbers x = Checks.hallOf("p" + CARD);
        Doc.says(15, "BAD");
        for (int number : Checks.outside(1, 12)) {
            Checks.bad("call(" + number + ")", x, () -> x.call(number));
            Checks.bad("call(" + number + ") without players", none, () -> none.call(number));
        }
        Doc.says(15, "STATE: no PLAYERS, or it is not in the bag");
        for (int number = 1; number <= 12; number++) {
            int called = number;
            Checks.stays("no players", none, CalledNumbers.STATE, () -> none.call(called));
            x.call(number);
            Checks.stays("not in the bag", x, CalledNumbers.STATE, () -> x.call(called));
        }
        Checks.stays("the bag is empty", x, CalledNumbers.STATE, () -> x.call(1));
        Doc.says(15, "FULL: 40 DEEDS.");
        CalledNumbers y = rubbed(MOST - 2);
        Checks.due("the 39th", y.call(1), 0);
        Checks.due("the 40th", y.call(2), 0);
        Checks.stays("the 41st", y, CalledNumbers.FULL, () -> y.call(3));
        y.undo(MOST - 1);
        Checks.due("the 40th, once more", y.call(3), 0);
        Doc.says(15, "(FULL last.)");
        Checks.stays("STATE ahead of FULL", y, CalledNumbers.STATE, () -> y.call(1));
        Checks.bad("BAD ahead of FULL", y, () -> y.call(0));
        Checks.bad("BAD ahead of FULL", y, () -> y.call(13));
    }

    private static void rub() {
        Doc.says(16, "A PLACE of a CARD is MARKED, or rubbed out: PLACES that are MARKED (bits).");
        CalledNumbers x = Checks.hallOf(FOUR);
        int deeds = 0;
        for (int i = 0; i < 4; i++) {
            int places = 0;
            for (int place = 0; place < 6; place++) {
                places |= 1 << place;
                Checks.due("rub(" + i + ", " + place + ")", x.rub(i, place), places);
                deeds++;
            }
            Checks.due("rub(" + i + ", 0), out", x.rub(i, 0), 62);
            Checks.due("rub(" + i + ", 5), out", x.rub(i, 5), 30);
            deeds += 2;
        }
        Checks.due("deeds", x.count(2), deeds);
        Checks.due("no call", x.count(1), 0);
        Checks.due("nobody has won", x.count(5), 0);
        Checks.due("the bag", x.count(3), Checks.BAG);
        x.undo(0);
        x.call(3);
        Checks.due("what a call marked", x.rub(0, 2), 0);
        Checks.due("and again", x.rub(0, 2), 4);
    }

    private static void rubRefused() {
        Doc.says(16, "BAD");
        for (int n = 1; n <= 4; n++) {
            CalledNumbers x = Checks.hallOf(("p" + CARD).repeat(n));
            for (int i : Checks.outside(0, n - 1)) {
                Checks.bad("rub(" + i + ", 0) of " + n, x, () -> x.rub(i, 0));
            }
            for (int place : Checks.outside(0, 5)) {
                Checks.bad("rub(0, " + place + ")", x, () -> x.rub(0, place));
            }
        }
        CalledNumbers none = new CalledNumbers();
        Checks.bad("rub(0, 0) without players", none, () -> none.rub(0, 0));
        Doc.says(16, "FULL.");
        CalledNumbers x = rubbed(MOST - 1);
        Checks.due("the 40th", x.rub(0, 0), 33);
        Checks.stays("the 41st", x, CalledNumbers.FULL, () -> x.rub(0, 0));
        Doc.says(16, "(FULL last.)");
        Checks.bad("BAD ahead of FULL, rub(0, 6)", x, () -> x.rub(0, 6));
        Checks.bad("BAD ahead of FULL, rub(1, 0)", x, () -> x.rub(1, 0));
    }

    /** Deed k of forty: twelve calls, and places of all players by hand. */
    private static void deed(CalledNumbers x, int k) {
        if (k % 2 == 0 && k / 2 < 12) {
            x.call(k / 2 * 5 % 12 + 1);
        } else {
            x.rub(k % 4, k / 4 % 6);
        }
    }

    private static void undo() {
        Doc.says(17, "DEEDS from number n on are undone: how many.");
        CalledNumbers x = Checks.hallOf(FOUR);
        long[] digests = new long[MOST + 1];
        for (int k = 0; k < MOST; k++) {
            digests[k] = x.digest();
            deed(x, k);
        }
        digests[MOST] = x.digest();
        int deeds = MOST;
        for (int n : new int[] {40, 39, 38, 24, 23, 22, 7, 2, 1, 0, 0}) {
            Checks.due("undo(" + n + ") of " + deeds, x.undo(n), deeds - n);
            Checks.due("deeds", x.count(2), n);
            Checks.due("as it was ahead of deed " + n, x.digest(), digests[n]);
            deeds = n;
        }
        Checks.due("all numbers are in the bag again", x.count(3), Checks.BAG);
        for (int k = 0; k < MOST; k++) {
            deed(x, k);
        }
        Checks.due("the same deeds once more", x.digest(), digests[MOST]);
        Checks.due("undo(0) of all", x.undo(0), MOST);
        Checks.due("as it was at first", x.digest(), digests[0]);
        CalledNumbers none = new CalledNumbers();
        Checks.due("undo(0) without players", none.undo(0), 0);
        Checks.due("the bag without players", none.count(3), 0);
    }

    private static void undoRefused() {
        Doc.says(17, "BAD");
        CalledNumbers none = new CalledNumbers();
        for (int n : Checks.outside(0, 0)) {
            Checks.bad("undo(" + n + ") of none", none, () -> none.undo(n));
        }
        CalledNumbers x = Checks.hallOf("p" + CARD);
        x.call(1);
        x.rub(0, 4);
        for (int n : Checks.outside(0, 2)) {
            Checks.bad("undo(" + n + ") of two", x, () -> x.undo(n));
        }
        CalledNumbers y = rubbed(MOST);
        Checks.bad("undo(41) of forty", y, () -> y.undo(MOST + 1));
    }

    private static void keep() {
        Doc.says(18, "The HALL (as it is, DEEDS) is kept in a place (0 .. 2): how many DEEDS.");
        CalledNumbers x = Checks.hallOf(FOUR);
        Checks.due("keep(0), no deeds", x.keep(0), 0);
        Checks.due("kept halls", x.count(11), 1);
        x.call(1);
        x.rub(3, 5);
        Checks.due("keep(2), two deeds", x.keep(2), 2);
        Checks.due("kept halls", x.count(11), 2);
        Checks.due("keep(1), two deeds", x.keep(1), 2);
        Checks.due("kept halls", x.count(11), 3);
        x.undo(1);
        Checks.due("keep(1), over another one", x.keep(1), 1);
        Checks.due("kept halls", x.count(11), 3);
        Checks.due("the other one is as it was", x.on(2), 2);
        CalledNumbers y = rubbed(MOST);
        Checks.due("keep(0), forty deeds", y.keep(0), MOST);
    }

    private static void on() {
        Doc.says(19, "The HALL is as it was kept: how many DEEDS.");
        CalledNumbers x = Checks.hallOf(FOUR);
        x.keep(1);
        x.call(1);
        x.rub(0, 1);
        x.rub(0, 2);
        x.call(12);
        x.rub(0, 0);
        x.keep(0);
        long[] was = new long[6];
        for (int what = 1; what <= 6; what++) {
            was[what - 1] = x.count(what);
        }
        long digest = x.digest();
        for (int k = 0; k < 3; k++) {
            x.undo(k);
            x.call(7 + k);
            Checks.due("on(0)", x.on(0), 5);
            for (int what = 1; what <= 6; what++) {
                Checks.due("count(" + what + ")", x.count(what), was[what - 1]);
            }
            Checks.due("digest()", x.digest(), digest);
        }
        Checks.due("it has won, though rubbed out", x.count(5) & 1, 1);
        Checks.due("its deeds can be undone", x.undo(3), 2);
        Checks.due("to what was ahead of them", x.count(3), Checks.BAG & ~Checks.bits(1));
        Checks.told("and marked", x, x.player(0, 1), 7);
        Checks.due("on(1), kept without deeds", x.on(1), 0);
        Checks.due("nothing was called", x.count(3), Checks.BAG);
        CalledNumbers y = rubbed(MOST);
        y.keep(2);
        y.undo(0);
        Checks.due("on(2), forty deeds", y.on(2), MOST);
        Checks.stays("it is full", y, CalledNumbers.FULL, () -> y.call(1));
    }

    private static void keptRefused() {
        CalledNumbers none = new CalledNumbers();
        CalledNumbers x = Checks.hallOf("p" + CARD);
        x.keep(1);
        Doc.says(18, "BAD");
        for (int k : Checks.outside(0, 2)) {
            Checks.bad("keep(" + k + ")", x, () -> x.keep(k));
            Checks.bad("keep(" + k + ") without players", none, () -> none.keep(k));
        }
        Doc.says(18, "STATE: no PLAYERS.");
        for (int k = 0; k <= 2; k++) {
            int place = k;
            Checks.stays("keep(" + k + ")", none, CalledNumbers.STATE, () -> none.keep(place));
        }
        Doc.says(19, "BAD");
        for (int k : Checks.outside(0, 2)) {
            Checks.bad("on(" + k + ")", x, () -> x.on(k));
            Checks.bad("on(" + k + ") without players", none, () -> none.on(k));
        }
        Doc.says(19, "NOTHING.");
        Checks.finds("on(0)", x, NOTHING, () -> x.on(0));
        Checks.finds("on(2)", x, NOTHING, () -> x.on(2));
        Checks.finds("on(1) without players", none, NOTHING, () -> none.on(1));
    }
}
