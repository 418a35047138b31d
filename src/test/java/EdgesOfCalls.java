import java.util.Arrays;

/** Promises 20 to 24, sentence by sentence. */
final class EdgesOfCalls {
    private static final int NOTHING = 1, UNLIKE = 3, SIZE = 5;
    private static final String CARD = "010203040506";
    private static final int[] NO_ROWS = Checks.outside(0, 5);

    private EdgesOfCalls() {
    }

    static void all() {
        hears();
        hearsRefused();
        run();
        runRefused();
        safe();
        safeAtTheEdges();
        fewest();
        fewestFirst();
        fewestNone();
        most();
        mostFirst();
        mostRefused();
    }

    private static void hears() {
        Doc.says(20, "NUMBERS (bits) that a PLAYER HEARS at a CALL of a number (0 .. 99), a NUMBER called (1 .. 12), "
            + "another one in the CALL ahead (0 .. 12; 0: none).");
        CalledNumbers x = Checks.hallOf("p" + CARD + "d" + CARD + "l" + CARD + "s" + CARD);
        int[] calls = {0, 2, 98, 99};
        for (int call : calls) {
            boolean deaf = call % 3 == 2;
            Checks.stays("p, 12 at " + call, x, 4096, () -> x.hears(0, 12, 0, call));
            Checks.stays("d, 1 at " + call, x, deaf ? 0 : 2, () -> x.hears(1, 1, 12, call));
            Checks.stays("l, 12 ahead, at " + call, x, 4096, () -> x.hears(2, 1, 12, call));
            Checks.stays("l, 1 ahead, at " + call, x, 2, () -> x.hears(2, 12, 1, call));
            Checks.stays("l, none ahead, at " + call, x, 0, () -> x.hears(2, 12, 0, call));
            Checks.stays("s, 12 and 1 at " + call, x, deaf ? 0 : 4098, () -> x.hears(3, 12, 1, call));
            Checks.stays("s, 11 and 12 at " + call, x, deaf ? 0 : 6144, () -> x.hears(3, 11, 12, call));
        }
        x.call(5);
        Checks.due("a number that is not in the bag", x.hears(0, 5, 4, 0), 32);
        Checks.due("ahead of it what is in the bag", x.hears(2, 5, 4, 0), 16);
    }

    private static void hearsRefused() {
        Doc.says(20, "BAD.");
        CalledNumbers none = new CalledNumbers();
        Checks.bad("without players", none, () -> none.hears(0, 1, 0, 0));
        CalledNumbers x = Checks.hallOf("l" + CARD + "s" + CARD);
        for (int i : Checks.outside(0, 1)) {
            Checks.bad("player " + i, x, () -> x.hears(i, 1, 0, 0));
        }
        for (int number : Checks.outside(1, 12)) {
            Checks.bad("number " + number, x, () -> x.hears(0, number, 5, 0));
        }
        for (int ahead : Checks.outside(0, 12)) {
            Checks.bad("ahead " + ahead, x, () -> x.hears(1, 5, ahead, 0));
        }
        for (int call : Checks.outside(0, 99)) {
            Checks.bad("call " + call, x, () -> x.hears(0, 5, 6, call));
        }
        for (int number = 1; number <= 12; number++) {
            int same = number;
            Checks.bad("no other one ahead, " + number, x, () -> x.hears(0, same, same, 3));
        }
    }

    private static void runOf(CalledNumbers x, int won, int called, int... numbers) {
        Checks.fill(x, 0, numbers);
        long before = x.digest();
        String what = "run of " + Arrays.toString(numbers);
        Checks.due(what, x.run(0), won);
        Checks.due(what + ", asked()", x.asked(), called);
        Checks.due(what + ", digest() behind it", x.digest(), before);
    }

    private static void run() {
        Doc.says(21, "PLAYERS (bits) who have WON behind CALLS of a ROW (0 to 12 NUMBERS) "
            + "up to the first that is not in the bag");
        CalledNumbers x = Checks.hallOf("p" + CARD + "w" + CARD + "d" + CARD + "l" + CARD);
        runOf(x, 0, 0);
        runOf(x, 0, 1, 12);
        runOf(x, 0, 1, 1);
        runOf(x, 0, 2, 1, 2);
        runOf(x, 1, 3, 1, 2, 3);
        runOf(x, 1 | 4, 4, 1, 2, 12, 3);
        runOf(x, 1 | 2 | 4, 11, 1, 2, 12, 3, 4, 11, 5, 7, 10, 8, 6);
        runOf(x, 1 | 2 | 4 | 8, 12, 1, 2, 12, 3, 4, 11, 5, 7, 10, 8, 6, 9);
        runOf(x, 0, 2, 1, 3, 1, 2, 4, 5, 6);
        x.call(3);
        runOf(x, 0, 0, 3, 1, 2);
        runOf(x, 0, 1, 1, 3, 2);
        runOf(x, 1, 2, 1, 2, 3);
        x.call(1);
        x.call(2);
        runOf(x, 1, 0);
        runOf(x, 1, 0, 1);
        x.rub(0, 0);
        runOf(x, 1, 1, 12);
        Doc.says(21, "how many were called by asked().");
        for (int number = 4; number <= 12; number++) {
            x.call(number);
        }
        for (int number = 1; number <= 12; number++) {
            runOf(x, x.count(5), 0, number);
        }
    }

    private static void runRefused() {
        Doc.says(21, "STATE: no PLAYERS");
        CalledNumbers none = new CalledNumbers();
        none.row(1, 13);
        none.row(2, 1);
        for (int r : new int[] {0, 1, 2, 5, 6, -1, Integer.MIN_VALUE, Integer.MAX_VALUE}) {
            Checks.stays("run(" + r + ")", none, CalledNumbers.STATE, () -> none.run(r));
        }
        CalledNumbers x = Checks.hallOf("p" + CARD);
        x.card(0, 5);
        Doc.says(21, "BAD");
        for (int r : NO_ROWS) {
            Checks.bad("run(" + r + ")", x, () -> x.run(r));
        }
        Doc.says(21, "NOTHING");
        Checks.finds("run(5), missing", x, NOTHING, () -> x.run(5));
        Doc.says(21, "SIZE");
        for (int size : new int[] {13, 14, 40}) {
            int[] ones = new int[size];
            Arrays.fill(ones, 1);
            Checks.fill(x, 0, ones);
            Checks.finds("run of " + size, x, SIZE, () -> x.run(0));
        }
        Doc.says(21, "UNLIKE: not 1 .. 12.");
        for (int number : Checks.outside(1, 12)) {
            Checks.fill(x, 0, number);
            Checks.finds("run of " + number, x, UNLIKE, () -> x.run(0));
            // Behind one that is not in the bag it is seen, too.
            Checks.fill(x, 0, 1, 1, 1, 1, 1, 1, 1, 1, 1, 1, 1, number);
            Checks.finds("run up to " + number, x, UNLIKE, () -> x.run(0));
        }
        Doc.says(21, "(In this order.)");
        x.row(0, 13);
        Checks.finds("SIZE ahead of UNLIKE", x, SIZE, () -> x.run(0));
        Checks.stays("STATE ahead of SIZE", none, CalledNumbers.STATE, () -> none.run(1));
        Checks.stays("STATE ahead of UNLIKE", none, CalledNumbers.STATE, () -> none.run(2));
    }

    private static void safeIs(String what, CalledNumbers x, int safe, int most) {
        long before = x.digest();
        Checks.due(what, x.safe(), safe);
        Checks.due(what + ", asked()", x.asked(), most);
        Checks.due(what + ", digest() behind it", x.digest(), before);
    }

    private static void safe() {
        Doc.says(22, "NUMBERS (bits) in the bag by which, called now, nobody WINS who has not");
        CalledNumbers x = Checks.hallOf("p" + CARD + "p030201070809");
        x.call(1);
        x.call(2);
        safeIs("by 3 both win", x, x.count(3) & ~Checks.bits(3), Checks.bits(3));
        x.call(7);
        x.call(8);
        Doc.says(22, "those by which most do by asked()");
        safeIs("by 3 both, by 9 one", x, x.count(3) & ~Checks.bits(3, 9), Checks.bits(3));
        x.call(9);
        safeIs("by 3 the other one", x, x.count(3) & ~Checks.bits(3), Checks.bits(3));
        x.call(4);
        x.call(5);
        safeIs("by 3 or 6 the other one", x, x.count(3) & ~Checks.bits(3, 6), Checks.bits(3, 6));
        Doc.says(22, "(all that are in the bag, if by none anyone does).");
        x.call(6);
        safeIs("all have won", x, Checks.bits(3, 10, 11, 12), Checks.bits(3, 10, 11, 12));
        x.undo(0);
        safeIs("at first", x, Checks.BAG, Checks.BAG);
    }

    private static void safeAtTheEdges() {
        Doc.says(22, "STATE: no PLAYERS.");
        CalledNumbers none = new CalledNumbers();
        Checks.stays("safe()", none, CalledNumbers.STATE, none::safe);
        Doc.says(22, "NUMBERS (bits) in the bag by which, called now, nobody WINS who has not");
        CalledNumbers x = Checks.hallOf("p121101020304" + "s" + CARD);
        x.call(11);
        x.call(12);
        // At call 2 the sly one hears nothing.
        safeIs("by the first one", x, x.count(3) & ~Checks.bits(1), Checks.bits(1));
        x.undo(0);
        x.call(1);
        x.call(11);
        x.call(10);
        safeIs("by the last one the one, by 2 and 3 the other one", x,
            x.count(3) & ~Checks.bits(2, 3, 12), Checks.bits(2, 3, 12));
        x.undo(0);
        x.rub(0, 0);
        x.rub(0, 1);
        x.rub(0, 2);
        safeIs("it has it by hand: by each", x, 0, Checks.BAG);
        x.undo(0);
        for (int number = 1; number <= 11; number++) {
            x.call(number);
        }
        CalledNumbers y = Checks.hallOf("p101112010203");
        y.call(11);
        y.call(10);
        safeIs("by the last one alone", y, y.count(3) & ~Checks.bits(12), Checks.bits(12));
        safeIs("12 is left", x, Checks.bits(12), Checks.bits(12));
        x.call(12);
        safeIs("the bag is empty", x, 0, 0);
    }

    private static void fewestIs(CalledNumbers x, int i, int... numbers) {
        for (int r : new int[] {0, 5}) {
            x.row(r, 40);
            x.lay(r, 39, 7);
            String what = "fewest(" + i + ", " + r + ")";
            Checks.due(what, x.fewest(i, r), numbers.length);
            Checks.rowIs(what, x, r, numbers);
            x.tear(r);
            Checks.due(what + ", to a missing row", x.fewest(i, r), numbers.length);
            Checks.rowIs(what + ", to a missing row", x, r, numbers);
        }
    }

    private static void fewest() {
        Doc.says(23, "The fewest CALLS (0 to 4) behind which a PLAYER has WON");
        CalledNumbers x = Checks.hallOf("w" + CARD + "p" + CARD);
        x.call(1);
        x.call(2);
        fewestIs(x, 0, 3, 4, 5, 6);
        fewestIs(x, 1, 3);
        x.call(6);
        fewestIs(x, 0, 3, 4, 5);
        x.call(4);
        fewestIs(x, 0, 3, 5);
        x.call(5);
        fewestIs(x, 0, 3);
        Checks.due("one has won", x.count(5), 2);
        fewestIs(x, 1);
        x.call(3);
        fewestIs(x, 0);
        x.rub(0, 0);
        fewestIs(x, 0);
        CalledNumbers y = Checks.hallOf("p121110090807");
        for (int place = 0; place < 3; place++) {
            y.rub(0, place);
        }
        // It has it by hand and wins by any call.
        fewestIs(y, 0, 1);
        CalledNumbers late = Checks.hallOf("l" + CARD);
        for (int place = 0; place < 5; place++) {
            late.rub(0, place);
        }
        fewestIs(late, 0, 6, 1);
    }

    private static void fewestFirst() {
        Doc.says(23, "the first such NUMBERS come to a ROW (anew).");
        fewestIs(Checks.hallOf("p121110010203"), 0, 1, 2, 3);
        fewestIs(Checks.hallOf("p121110090807"), 0, 7, 8, 9);
        fewestIs(Checks.hallOf("h070809020406"), 0, 2, 4, 6);
        fewestIs(Checks.hallOf("s" + CARD), 0, 1, 2);
        fewestIs(Checks.hallOf("s120103050709"), 0, 2, 12);
        // 1, 2, 3, 4: at call 2 it hears nothing.
        fewestIs(Checks.hallOf("d" + CARD), 0, 1, 2, 4, 3);
        CalledNumbers x = Checks.hallOf("h010203101112");
        x.call(1);
        x.call(10);
        fewestIs(x, 0, 2, 3);
        x.call(2);
        fewestIs(x, 0, 3);
        CalledNumbers y = Checks.hallOf("h100203011112");
        y.call(10);
        y.call(1);
        y.call(2);
        // By 3 a line, by 11 or 12 two of each.
        fewestIs(y, 0, 3);
        y.call(12);
        fewestIs(y, 0);
        Checks.fill(x, 1, 5, 6, 7, 8);
        Checks.due("to a longer row", x.fewest(0, 1), 1);
        Checks.due("run of it", x.run(1), 1);
        Checks.due("what it was before is gone", x.asked(), 1);
    }

    private static void fewestNone() {
        Doc.says(23, "NONE: by none of these.");
        CalledNumbers x = Checks.hallOf("w" + CARD + "l" + CARD + "d" + CARD);
        Checks.fill(x, 3, 77, 78);
        x.card(0, 2);
        Checks.stays("six are wanted", x, CalledNumbers.NONE, () -> x.fewest(0, 3));
        Checks.stays("and to a missing row", x, CalledNumbers.NONE, () -> x.fewest(0, 4));
        x.call(1);
        Checks.stays("five are wanted", x, CalledNumbers.NONE, () -> x.fewest(0, 3));
        x.call(2);
        Checks.due("four are wanted", x.fewest(0, 3), 4);
        Checks.stays("late ones want one more", x, CalledNumbers.NONE, () -> x.fewest(1, 4));
        x.undo(0);
        x.call(1);
        x.rub(0, 0);
        for (int number = 2; number <= 12; number++) {
            x.call(number);
        }
        Checks.stays("the bag is empty", x, CalledNumbers.NONE, () -> x.fewest(0, 4));
        x.undo(12);
        x.rub(0, 0);
        x.rub(0, 1);
        // 12 alone is left.
        Checks.stays("the bag has no fit", x, CalledNumbers.NONE, () -> x.fewest(0, 4));
        Doc.says(23, "BAD.");
        CalledNumbers none = new CalledNumbers();
        Checks.bad("without players", none, () -> none.fewest(0, 0));
        for (int i : Checks.outside(0, 2)) {
            Checks.bad("fewest(" + i + ", 0)", x, () -> x.fewest(i, 0));
        }
        for (int r : NO_ROWS) {
            Checks.bad("fewest(0, " + r + ")", x, () -> x.fewest(0, r));
        }
    }

    private static void mostIs(CalledNumbers x, int n, int most, int... numbers) {
        for (int r : new int[] {0, 5}) {
            x.row(r, 40);
            x.lay(r, 39, 7);
            String what = "most(" + n + ", " + r + ")";
            Checks.due(what, x.most(n, r), most);
            Checks.rowIs(what, x, r, numbers);
            x.tear(r);
            Checks.due(what + ", to a missing row", x.most(n, r), most);
            Checks.rowIs(what + ", to a missing row", x, r, numbers);
        }
    }

    private static void most() {
        Doc.says(24, "How many PLAYERS at most can have WON behind n (0 .. 4) CALLS");
        CalledNumbers x = Checks.hallOf("p010203040506" + "p030201070809" + "p010203101112" + "w" + CARD);
        mostIs(x, 0, 0);
        mostIs(x, 1, 0, 1);
        mostIs(x, 2, 0, 1, 2);
        mostIs(x, 3, 3, 1, 2, 3);
        mostIs(x, 4, 3, 1, 2, 3, 4);
        x.call(1);
        x.call(2);
        mostIs(x, 0, 0);
        mostIs(x, 1, 3, 3);
        mostIs(x, 4, 4, 3, 4, 5, 6);
        x.call(3);
        mostIs(x, 0, 3);
        mostIs(x, 1, 3, 4);
        mostIs(x, 3, 4, 4, 5, 6);
        Doc.says(24, "n, or as many as are in the bag");
        for (int number = 7; number <= 12; number++) {
            x.call(number);
        }
        mostIs(x, 4, 4, 4, 5, 6);
        mostIs(x, 2, 3, 4, 5);
        x.call(5);
        x.call(4);
        mostIs(x, 4, 4, 6);
        mostIs(x, 0, 3);
        x.call(6);
        mostIs(x, 4, 4);
        mostIs(x, 0, 4);
    }

    private static void mostFirst() {
        Doc.says(24, "the first NUMBERS by which it is so come to a ROW (anew).");
        mostIs(Checks.hallOf("p121110090807"), 3, 1, 7, 8, 9);
        mostIs(Checks.hallOf("d" + CARD), 4, 1, 1, 2, 4, 3);
        mostIs(Checks.hallOf("s120103050709"), 2, 1, 2, 12);
        CalledNumbers x = Checks.hallOf("p010203101112" + "p040506101112");
        x.call(11);
        x.call(12);
        // By 10 both.
        mostIs(x, 1, 2, 10);
        mostIs(x, 2, 2, 1, 10);
        CalledNumbers all = Checks.hallOf("p" + CARD);
        all.call(1);
        all.call(2);
        all.call(3);
        mostIs(all, 4, 1, 4, 5, 6, 7);
    }

    private static void mostRefused() {
        CalledNumbers none = new CalledNumbers();
        CalledNumbers x = Checks.hallOf("p" + CARD);
        Doc.says(24, "BAD");
        for (int n : Checks.outside(0, 4)) {
            Checks.bad("most(" + n + ", 0)", x, () -> x.most(n, 0));
            Checks.bad("most(" + n + ", 0) without players", none, () -> none.most(n, 0));
        }
        for (int r : NO_ROWS) {
            Checks.bad("most(1, " + r + ")", x, () -> x.most(1, r));
            Checks.bad("most(1, " + r + ") without players", none, () -> none.most(1, r));
        }
        Doc.says(24, "STATE: no PLAYERS.");
        for (int n = 0; n <= 4; n++) {
            int calls = n;
            Checks.stays("most(" + n + ", 0)", none, CalledNumbers.STATE, () -> none.most(calls, 0));
        }
    }
}
