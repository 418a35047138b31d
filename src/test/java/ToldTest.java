/** Promises 32 to 38: asked, upper, lower, count, finding, findings, digest. */
final class ToldTest {
    private static final int NOTHING = 1, BEYOND = 2, UNLIKE = 3, NOUGHT = 4, SIZE = 5;
    private static final String CARD = "010203040506";

    public static void main(String[] args) {
        askedStays();
        upperAndLowerStay();
        counts();
        countRefused();
        findings();
        findingsRefused();
        digest();
        digestAsksNothing();
        constants();
        Checks.end();
    }

    private static void askedStays() {
        CalledNumbers x = Checks.hallOf("p" + CARD + "w" + CARD);
        x.card(0, 4);
        Checks.due("asked() by card", x.asked(), 5);
        x.row(0, 2);
        x.row(1, 2);
        x.copy(0, 0, 1, 0, 2);
        x.tear(1);
        x.put(3, 0, 'x');
        x.fault(3);
        x.call(1);
        x.rub(0, 5);
        x.keep(0);
        x.on(0);
        x.undo(1);
        x.hears(0, 3, 0, 0);
        x.fewest(0, 2);
        x.most(2, 2);
        x.which(0, 1);
        x.row(2, 0);
        x.kinds(0, 2);
        x.odds(0, 1);
        x.mid(0, 1);
        x.lots(3, 3);
        x.mark(1, 1);
        x.count(3);
        x.findings(1);
        x.digest();
        Checks.due("asked() stays", x.asked(), 5);
        x.at(0, 9);
        x.lay(9, 0, 1);
        x.mean(3);
        x.player(7, 1);
        x.card(0, 7);
        x.run(3);
        x.next(0, 3);
        x.duel(0, 0, 0);
        Checks.due("asked() stays behind refusals", x.asked(), 5);
    }

    private static void upperAndLowerStay() {
        CalledNumbers x = Checks.hallOf("p" + CARD);
        x.mid(0, 3);
        x.fewest(0, 0);
        x.mean(0);
        x.odds(0, 4);
        x.mid(3, 0);
        x.lots(2, 2);
        Checks.due("upper() stays", x.upper(), 3);
        Checks.due("lower() stays", x.lower(), 2);
        x.undo(0);
        x.odds(0, 0);
        Checks.due("upper() of none", x.upper(), 0);
        Checks.due("lower() of none", x.lower(), 1);
    }

    private static void countsAre(CalledNumbers x, int... wanted) {
        for (int what = 0; what < wanted.length; what++) {
            Checks.due("count(" + what + ")", x.count(what), wanted[what]);
        }
    }

    private static void counts() {
        CalledNumbers x = Checks.hallOf("l" + CARD + "s" + CARD + "w" + CARD + "d" + CARD);
        countsAre(x, 4, 0, 0, Checks.BAG, 0, 0, 0, 2, 2, 0, 1, 0);
        x.call(12);
        x.rub(0, 3);
        x.call(2);
        x.row(0, 0);
        x.row(4, 3);
        x.text(0, 0);
        x.keep(1);
        int bag = Checks.BAG & ~Checks.bits(12, 2);
        // l: 4 by hand; s: 1, 2, 3; w: 2; d: 2.
        countsAre(x, 4, 2, 3, bag, 2, 2, 6, 2, 2, 2, 2, 1);
        x.undo(1);
        countsAre(x, 4, 1, 1, Checks.BAG & ~Checks.bits(12), 12, 0, 1, 2, 2, 2, 2, 1);
        CalledNumbers y = Checks.hallOf("p" + CARD + "h" + CARD);
        countsAre(y, 2, 0, 0, Checks.BAG, 0, 0, 0, 0, 0, 0, 1, 0);
        CalledNumbers z = Checks.hallOf("d" + CARD);
        countsAre(z, 1, 0, 0, Checks.BAG, 0, 0, 0, 0, 1, 0, 1, 0);
        CalledNumbers w = Checks.hallOf("w" + CARD);
        countsAre(w, 1, 0, 0, Checks.BAG, 0, 0, 0, 1, 0, 0, 1, 0);
    }

    private static void countRefused() {
        CalledNumbers x = Checks.hallOf("p" + CARD);
        for (int what : new int[] {-1, 12, Integer.MIN_VALUE, Integer.MAX_VALUE}) {
            Checks.due("count(" + what + ")", x.count(what), CalledNumbers.BAD);
        }
    }

    private static void findings() {
        CalledNumbers x = Checks.hallOf("p" + CARD);
        x.at(0, 0);
        x.on(0);
        x.fault(0);
        Checks.due("finding(), NOTHING", x.finding(), NOTHING);
        x.row(0, 0);
        x.at(0, 0);
        Checks.due("finding(), BEYOND", x.finding(), BEYOND);
        x.mark(0, 1);
        x.mark(0, 2);
        Checks.due("finding(), UNLIKE", x.finding(), UNLIKE);
        x.mean(0);
        Checks.due("finding(), NOUGHT", x.finding(), NOUGHT);
        x.row(0, -1);
        Checks.due("finding(), SIZE", x.finding(), SIZE);
        x.row(9, -1);
        x.call(0);
        x.fewest(0, 0);
        Checks.due("finding() stays", x.finding(), SIZE);
        int[] often = {0, 3, 1, 2, 1, 1};
        for (int f = 1; f <= 5; f++) {
            Checks.due("findings(" + f + ")", x.findings(f), often[f]);
        }
    }

    private static void findingsRefused() {
        CalledNumbers x = new CalledNumbers();
        for (int f : new int[] {0, -1, 6, Integer.MIN_VALUE, Integer.MAX_VALUE}) {
            Checks.due("findings(" + f + ")", x.findings(f), CalledNumbers.BAD);
        }
    }

    private static long fold(long h, long... values) {
        long folded = h;
        for (long v : values) {
            folded = 31 * folded + v;
        }
        return folded;
    }

    private static void digest() {
        CalledNumbers x = Checks.hallOf("h" + CARD + " l121110090807");
        x.call(12);
        x.call(1);
        x.keep(2);
        x.rub(0, 5);
        Checks.fill(x, 1, -7, 8);
        x.row(5, 0);
        x.text(0, 2);
        x.put(0, 1, 200);
        long h = fold(17, 2, 2, 3, Checks.BAG & ~Checks.bits(1, 12), 1, 0, 3, 1, 0, 2, 2, 1);
        h = fold(h, 3, 33, 0, 0, 2, 1, 2, 3, 4, 5, 6);
        h = fold(h, 4, 1, 0, 0, 5, 12, 11, 10, 9, 8, 7);
        h = fold(h, -1, -1, 2);
        h = fold(h, -1, 2, -7, 8, -1, -1, -1, 0);
        h = fold(h, 2, 32, -56, -1, -1, 27);
        String text = "h" + CARD + " l121110090807";
        for (int i = 0; i < text.length(); i++) {
            h = fold(h, text.charAt(i));
        }
        Checks.due("digest()", x.digest(), h);
    }

    private static void digestAsksNothing() {
        CalledNumbers x = Checks.hallOf("p" + CARD);
        x.card(0, 3);
        x.odds(0, 3);
        x.at(0, 0);
        long before = x.digest();
        Checks.due("digest(), twice", x.digest(), before);
        Checks.due("asked() behind digest", x.asked(), 4);
        Checks.due("upper() behind digest", x.upper(), 1);
        Checks.due("finding() behind digest", x.finding(), NOTHING);
        x.at(0, 0);
        x.card(0, 4);
        x.mid(0, 1);
        Checks.due("digest() has nothing of what was told", x.digest(), before);
    }

    private static void constants() {
        Checks.due("BAD", CalledNumbers.BAD, -1);
        Checks.due("FULL", CalledNumbers.FULL, -2);
        Checks.due("FINDING", CalledNumbers.FINDING, -3);
        Checks.due("STATE", CalledNumbers.STATE, -4);
        Checks.due("SPENT", CalledNumbers.SPENT, -6);
        Checks.due("NONE", CalledNumbers.NONE, -9);
    }
}
