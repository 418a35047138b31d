/** Promises 15 to 19: call, rub, undo, keep, on. */
final class DeedsTest {
    private static final int NOTHING = 1;
    private static final String CARD = "010203040506";
    private static final String FOUR = "p" + CARD + "d" + CARD + "l" + CARD + "s" + CARD;

    public static void main(String[] args) {
        plain();
        deaf();
        late();
        sly();
        wonOnce();
        callRefused();
        rub();
        full();
        undo();
        undoneByHand();
        undoesWins();
        keepAndOn();
        keptRefused();
        Checks.end();
    }

    /** Calls these numbers and looks at who wins by each. */
    private static CalledNumbers calls(String hall, int[] numbers, int[] winners) {
        CalledNumbers x = Checks.hallOf(hall);
        for (int k = 0; k < numbers.length; k++) {
            Checks.due(hall + ", call " + k, x.call(numbers[k]), winners[k]);
        }
        return x;
    }

    private static void plain() {
        CalledNumbers x = calls("p" + CARD + "p121110090807",
            new int[] {4, 12, 6, 10, 11, 5}, new int[] {0, 0, 0, 0, 2, 1});
        Checks.due("won", x.count(5), 3);
        Checks.due("bag", x.count(3), Checks.bits(1, 2, 3, 7, 8, 9));
        Checks.due("last", x.count(4), 5);
        Checks.due("next call", x.count(1), 6);
        Checks.told("marked", x, x.player(0, 1), 56);
        calls("w" + CARD, new int[] {1, 2, 3, 4, 5, 6}, new int[] {0, 0, 0, 0, 0, 1});
        calls("h" + CARD, new int[] {1, 2, 4, 5}, new int[] {0, 0, 0, 1});
        calls("h" + CARD, new int[] {1, 2, 3}, new int[] {0, 0, 1});
    }

    private static void deaf() {
        CalledNumbers x = calls("d" + CARD, new int[] {1, 2, 3, 4, 5, 6, 7}, new int[7]);
        Checks.told("not heard: 3 and 6", x, x.player(0, 1), 1 | 2 | 8 | 16);
        calls("d" + CARD, new int[] {1, 2, 12, 3}, new int[] {0, 0, 0, 1});
    }

    private static void late() {
        CalledNumbers x = calls("l" + CARD, new int[] {1, 2, 3, 4, 5, 6}, new int[6]);
        Checks.told("a call behind", x, x.player(0, 1), 31);
        Checks.due("one call more", x.call(12), 1);
        Checks.told("all", x, x.player(0, 1), 63);
    }

    private static void sly() {
        CalledNumbers x = calls("s" + CARD, new int[] {12}, new int[] {0});
        Checks.told("behind 12 comes 1", x, x.player(0, 1), 1);
        Checks.due("2, and 3", x.call(2), 1);
        Checks.due("nothing is heard", x.call(4), 0);
        Checks.told("1, 2, 3", x, x.player(0, 1), 7);
        x.call(5);
        Checks.told("5, 6", x, x.player(0, 1), 55);
    }

    private static void wonOnce() {
        CalledNumbers x = calls("p" + CARD, new int[] {1, 2, 3}, new int[] {0, 0, 1});
        x.rub(0, 0);
        Checks.due("won for good", x.count(5), 1);
        Checks.due("no more by the other line", x.call(4), 0);
        x.rub(0, 0);
        Checks.due("nor by the same one", x.call(12), 0);
    }

    private static void callRefused() {
        CalledNumbers none = new CalledNumbers();
        Checks.due("no players, call(1)", none.call(1), CalledNumbers.STATE);
        Checks.due("no players, call(0)", none.call(0), CalledNumbers.BAD);
        CalledNumbers x = Checks.hallOf(FOUR);
        for (int number : new int[] {0, 13, -1, 33, Integer.MIN_VALUE, Integer.MAX_VALUE}) {
            Checks.due("call(" + number + ")", x.call(number), CalledNumbers.BAD);
        }
        x.call(7);
        long before = x.digest();
        Checks.due("call(7), twice", x.call(7), CalledNumbers.STATE);
        Checks.due("digest()", x.digest(), before);
    }

    private static void rub() {
        CalledNumbers x = Checks.hallOf("p" + CARD + "w" + CARD);
        Checks.due("rub(1, 5)", x.rub(1, 5), 32);
        Checks.due("rub(1, 0)", x.rub(1, 0), 33);
        Checks.due("rub(1, 5), out", x.rub(1, 5), 1);
        Checks.told("the other one", x, x.player(0, 1), 0);
        Checks.due("deeds", x.count(2), 3);
        Checks.due("calls", x.count(1), 0);
        x.call(3);
        Checks.due("rubbed out behind a call", x.rub(0, 2), 0);
        Checks.due("rub(2, 0)", x.rub(2, 0), CalledNumbers.BAD);
        Checks.due("rub(-1, 0)", x.rub(-1, 0), CalledNumbers.BAD);
        Checks.due("rub(0, 6)", x.rub(0, 6), CalledNumbers.BAD);
        Checks.due("rub(0, -1)", x.rub(0, -1), CalledNumbers.BAD);
        Checks.due("no players, rub", new CalledNumbers().rub(0, 0), CalledNumbers.BAD);
    }

    private static void full() {
        CalledNumbers x = Checks.hallOf("p" + CARD);
        x.call(1);
        for (int k = 1; k < 40; k++) {
            Checks.holds("rub " + k, x.rub(0, 1) >= 0);
        }
        long before = x.digest();
        Checks.due("rub, the 41st", x.rub(0, 1), CalledNumbers.FULL);
        Checks.due("rub, the 41st, bad", x.rub(0, 6), CalledNumbers.BAD);
        Checks.due("call, the 41st", x.call(2), CalledNumbers.FULL);
        Checks.due("call, the 41st, not in the bag", x.call(1), CalledNumbers.STATE);
        Checks.due("call, the 41st, bad", x.call(0), CalledNumbers.BAD);
        Checks.due("digest()", x.digest(), before);
        Checks.due("keep, 40 deeds", x.keep(0), 40);
        Checks.due("undo(39)", x.undo(39), 1);
        Checks.due("on, 40 deeds", x.on(0), 40);
        Checks.due("undo(39), again", x.undo(39), 1);
        Checks.due("call, the 40th", x.call(2), 0);
    }

    private static void undo() {
        CalledNumbers x = Checks.hallOf(FOUR);
        Checks.due("undo(0), none", x.undo(0), 0);
        long[] digests = new long[5];
        int[] numbers = {1, 12, 2, 3};
        for (int k = 0; k < 4; k++) {
            digests[k] = x.digest();
            x.call(numbers[k]);
        }
        digests[4] = x.digest();
        Checks.due("undo(5)", x.undo(5), CalledNumbers.BAD);
        Checks.due("undo(-1)", x.undo(-1), CalledNumbers.BAD);
        Checks.due("undo(least)", x.undo(Integer.MIN_VALUE), CalledNumbers.BAD);
        Checks.due("undo(most)", x.undo(Integer.MAX_VALUE), CalledNumbers.BAD);
        Checks.due("undo(4)", x.undo(4), 0);
        Checks.due("digest() behind 4", x.digest(), digests[4]);
        Checks.due("undo(2)", x.undo(2), 2);
        Checks.due("digest() behind 2", x.digest(), digests[2]);
        Checks.due("undo(0)", x.undo(0), 2);
        Checks.due("digest() behind 0", x.digest(), digests[0]);
    }

    private static void undoneByHand() {
        CalledNumbers x = Checks.hallOf(FOUR);
        for (int i = 0; i < 4; i++) {
            x.rub(i, 0);
            x.rub(i, 5 - i);
        }
        x.rub(3, 1);
        Checks.due("undo(8)", x.undo(8), 1);
        for (int i = 0; i < 4; i++) {
            Checks.told("places of " + i, x, x.player(i, 1), 1 | 1 << 5 - i);
        }
        Checks.due("no calls", x.count(1), 0);
        CalledNumbers none = new CalledNumbers();
        Checks.due("no players, undo(0)", none.undo(0), 0);
        Checks.due("no players, undo(1)", none.undo(1), CalledNumbers.BAD);
        Checks.due("no players, the bag", none.count(3), 0);
    }

    private static void undoesWins() {
        CalledNumbers x = calls("p" + CARD, new int[] {1, 2, 3}, new int[] {0, 0, 1});
        x.rub(0, 0);
        Checks.due("undo(3)", x.undo(3), 1);
        Checks.told("marked again", x, x.player(0, 1), 7);
        Checks.due("won", x.count(5), 1);
        Checks.due("undo(2)", x.undo(2), 1);
        Checks.due("not won", x.count(5), 0);
        Checks.due("won again", x.call(3), 1);
    }

    private static void keepAndOn() {
        CalledNumbers x = Checks.hallOf(FOUR);
        Checks.due("keep(2), none", x.keep(2), 0);
        x.call(1);
        x.rub(0, 5);
        x.call(2);
        Checks.due("keep(0)", x.keep(0), 3);
        long kept = x.digest();
        x.call(3);
        x.undo(0);
        x.call(12);
        Checks.due("kept halls", x.count(11), 2);
        Checks.due("on(0)", x.on(0), 3);
        Checks.due("as it was kept", x.digest(), kept);
        Checks.due("undo behind on", x.undo(1), 2);
        Checks.due("kept still", x.on(0), 3);
        Checks.due("as it was kept, again", x.digest(), kept);
        x.undo(1);
        Checks.due("keep(0), over", x.keep(0), 1);
        Checks.due("on(2)", x.on(2), 0);
        Checks.due("nothing called", x.count(1), 0);
        Checks.due("on(0), over", x.on(0), 1);
        Checks.due("1 called", x.count(4), 1);
    }

    private static void keptRefused() {
        CalledNumbers none = new CalledNumbers();
        Checks.due("no players, keep(0)", none.keep(0), CalledNumbers.STATE);
        Checks.due("no players, keep(3)", none.keep(3), CalledNumbers.BAD);
        Checks.refused("no players, on(0)", none, none.on(0), NOTHING);
        CalledNumbers x = Checks.hallOf(FOUR);
        x.keep(0);
        Checks.refused("on(1)", x, x.on(1), NOTHING);
        for (int k : new int[] {-1, 3, Integer.MIN_VALUE, Integer.MAX_VALUE}) {
            Checks.due("keep(" + k + ")", x.keep(k), CalledNumbers.BAD);
            Checks.due("on(" + k + ")", x.on(k), CalledNumbers.BAD);
        }
    }
}
