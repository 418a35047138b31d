/** Promise 28: duel. */
final class DuelTest {
    private static final String LOW = "010203040506";
    private static final String HIGH = "070809101112";

    public static void main(String[] args) {
        noTurns();
        turns();
        winning();
        whoBegins();
        shortBag();
        refused();
        Checks.end();
    }

    private static void duelOf(CalledNumbers x, int i, int j, int n, int want) {
        long before = x.digest();
        Checks.told("duel(" + i + ", " + j + ", " + n + ")", x, x.duel(i, j, n), want);
        Checks.due("digest() behind duel", x.digest(), before);
    }

    private static void noTurns() {
        CalledNumbers x = Checks.hallOf("p" + LOW + "p" + HIGH);
        duelOf(x, 0, 1, 0, 0);
        x.rub(0, 0);
        x.rub(0, 1);
        duelOf(x, 0, 1, 0, 2);
        duelOf(x, 1, 0, 0, -2);
        x.rub(0, 2);
        duelOf(x, 0, 1, 0, 3);
        x.call(12);
        duelOf(x, 0, 1, 0, 12);
        duelOf(x, 1, 0, 0, -12);
        for (int number = 7; number <= 9; number++) {
            x.call(number);
        }
        duelOf(x, 0, 1, 0, -1);
    }

    private static void turns() {
        CalledNumbers x = Checks.hallOf("p" + LOW + "p" + HIGH + "s" + LOW);
        // Each calls a number of its own player.
        duelOf(x, 0, 1, 1, 0);
        duelOf(x, 0, 1, 2, 0);
        // The sly one marks two by its own call; the other caller then calls one of HIGH but 12.
        duelOf(x, 2, 1, 1, 1);
        duelOf(x, 1, 2, 1, -1);
    }

    private static void winning() {
        CalledNumbers x = Checks.hallOf("p" + LOW + "p" + HIGH);
        x.call(1);
        x.call(2);
        // i wins by 3 at once, j's caller can only mark.
        duelOf(x, 0, 1, 1, 12);
        duelOf(x, 1, 0, 1, -12);
        x.call(7);
        x.call(8);
        duelOf(x, 0, 1, 1, 0);
        x.call(3);
        duelOf(x, 0, 1, 1, 1);
        duelOf(x, 1, 0, 1, -1);
    }

    private static void whoBegins() {
        CalledNumbers x = Checks.hallOf("l" + LOW + "p" + HIGH);
        // The late one hears at the second call what the first one called.
        duelOf(x, 0, 1, 1, 0);
        duelOf(x, 1, 0, 1, 1);
        CalledNumbers y = Checks.hallOf("p" + LOW + "p" + HIGH);
        for (int number = 2; number <= 12; number++) {
            y.call(number);
        }
        // 1 alone is left.
        duelOf(y, 0, 1, 0, -1);
        duelOf(y, 0, 1, 2, 0);
    }

    private static void shortBag() {
        CalledNumbers x = Checks.hallOf("p" + LOW + "p" + HIGH);
        for (int number = 1; number <= 11; number++) {
            x.call(number);
        }
        // 12 alone is left, and the first one has to call it.
        duelOf(x, 0, 1, 0, 1);
        duelOf(x, 0, 1, 1, 0);
        duelOf(x, 0, 1, 2, 0);
        x.call(12);
        duelOf(x, 0, 1, 2, 0);
    }

    private static void refused() {
        CalledNumbers x = Checks.hallOf("p" + LOW + "p" + HIGH);
        x.card(1, 0);
        Checks.due("duel(0, 2, 1)", x.duel(0, 2, 1), CalledNumbers.BAD);
        Checks.due("duel(2, 0, 1)", x.duel(2, 0, 1), CalledNumbers.BAD);
        Checks.due("duel(-1, 0, 1)", x.duel(-1, 0, 1), CalledNumbers.BAD);
        Checks.due("duel(0, -1, 1)", x.duel(0, -1, 1), CalledNumbers.BAD);
        Checks.due("duel(0, 0, 1)", x.duel(0, 0, 1), CalledNumbers.BAD);
        Checks.due("duel(0, 1, 3)", x.duel(0, 1, 3), CalledNumbers.BAD);
        Checks.due("duel(0, 1, -1)", x.duel(0, 1, -1), CalledNumbers.BAD);
        Checks.due("duel(0, 1, most)", x.duel(0, 1, Integer.MAX_VALUE), CalledNumbers.BAD);
        Checks.due("no players, duel", new CalledNumbers().duel(0, 1, 0), CalledNumbers.BAD);
        Checks.due("asked() behind refusals", x.asked(), 7);
    }
}
