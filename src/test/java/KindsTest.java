/** Promises 25 to 27: which, kinds, next. */
final class KindsTest {
    private static final int NOTHING = 1, UNLIKE = 3, SIZE = 5;
    private static final String CARD = "010203040506";

    public static void main(String[] args) {
        which();
        whichOfKinds();
        whichRefused();
        kinds();
        kindsBehindCalls();
        kindsRefused();
        next();
        nextIsNow();
        nextAtTheEnd();
        nextNone();
        nextRefused();
        Checks.end();
    }

    private static void which() {
        CalledNumbers x = Checks.hallOf("p" + CARD);
        Checks.due("which(0, 1)", x.which(0, 1), Checks.bits(1));
        Checks.due("which(0, 32)", x.which(0, 32), Checks.bits(6));
        Checks.due("which(0, 0)", x.which(0, 0), Checks.bits(7, 8, 9, 10, 11, 12));
        Checks.due("which(0, 3)", x.which(0, 3), 0);
        x.call(2);
        x.rub(0, 0);
        Checks.due("which(0, 3), behind 2", x.which(0, 3), Checks.bits(1, 7, 8, 9, 10, 11, 12));
        Checks.due("which(0, 2), behind 2", x.which(0, 2), 0);
        Checks.due("which(0, 7), behind 2", x.which(0, 7), Checks.bits(3));
        Checks.due("which(0, 63)", x.which(0, 63), 0);
    }

    private static void whichOfKinds() {
        CalledNumbers x = Checks.hallOf("s" + CARD + "l" + CARD + "d" + CARD);
        Checks.due("s, 1 by 12", x.which(0, 1), Checks.bits(12));
        Checks.due("s, 1 and 2", x.which(0, 3), Checks.bits(1));
        Checks.due("s, 6 alone", x.which(0, 32), Checks.bits(6));
        Checks.due("l, nothing", x.which(1, 0), Checks.BAG);
        x.call(12);
        x.call(6);
        Checks.due("d, nothing is heard", x.which(2, 32), x.count(3));
        Checks.due("l, 6", x.which(1, 32), x.count(3));
        Checks.due("l, not nothing", x.which(1, 0), 0);
    }

    private static void whichRefused() {
        CalledNumbers x = Checks.hallOf("p" + CARD);
        Checks.due("which(1, 0)", x.which(1, 0), CalledNumbers.BAD);
        Checks.due("which(-1, 0)", x.which(-1, 0), CalledNumbers.BAD);
        Checks.due("which(0, 64)", x.which(0, 64), CalledNumbers.BAD);
        Checks.due("which(0, -1)", x.which(0, -1), CalledNumbers.BAD);
        Checks.due("no players, which", new CalledNumbers().which(0, 0), CalledNumbers.BAD);
    }

    private static void kindsOf(CalledNumbers x, int set, int... pairs) {
        Checks.fill(x, 0, pairs);
        long before = x.digest();
        Checks.due("kinds by " + java.util.Arrays.toString(pairs), x.kinds(0, 0), set);
        Checks.due("digest() behind kinds", x.digest(), before);
    }

    private static void kinds() {
        CalledNumbers x = Checks.hallOf("p" + CARD);
        int asPlain = Checks.bits(0, 1, 3);
        int deaf = Checks.bits(2);
        int late = Checks.bits(4);
        int sly = Checks.bits(5);
        kindsOf(x, 63);
        kindsOf(x, asPlain | deaf, 1, 1);
        kindsOf(x, sly, 1, 2);
        kindsOf(x, late, 1, 0);
        kindsOf(x, 63, 7, 0);
        kindsOf(x, 63 & ~sly, 12, 0);
        kindsOf(x, sly, 12, 1);
        kindsOf(x, asPlain, 1, 1, 2, 2, 3, 3);
        kindsOf(x, deaf, 1, 1, 2, 2, 3, 2);
        kindsOf(x, late, 1, 0, 2, 1, 3, 2);
        kindsOf(x, sly, 1, 2, 3, 4, 5, 4);
        kindsOf(x, 0, 1, 1, 1, 1);
        kindsOf(x, 0, 1, 6);
        kindsOf(x, asPlain, 7, 0, 8, 0, 1, 1, 9, 1, 10, 1, 2, 2, 3, 3, 4, 4);
    }

    private static void kindsBehindCalls() {
        CalledNumbers x = Checks.hallOf("w" + CARD);
        x.call(1);
        x.call(9);
        x.rub(0, 5);
        kindsOf(x, 0, 9, 2);
        kindsOf(x, Checks.bits(0, 1, 3), 2, 3);
        // At call 2 the deaf ones and the sly ones hear nothing, a late one 9.
        kindsOf(x, Checks.bits(2, 4, 5), 2, 2);
        kindsOf(x, Checks.bits(4), 2, 2, 10, 3);
        kindsOf(x, Checks.bits(0, 1, 3), 2, 3, 6, 3);
    }

    private static void refusedBoth(String what, CalledNumbers x, int finding) {
        Checks.refused(what + ", kinds", x, x.kinds(0, 0), finding);
        Checks.refused(what + ", next", x, x.next(0, 0), finding);
    }

    private static void kindsRefused() {
        CalledNumbers x = Checks.hallOf("p" + CARD);
        refusedBoth("missing", x, NOTHING);
        for (int size : new int[] {1, 3, 15, 17, 18, 40}) {
            x.row(0, size);
            refusedBoth("size " + size, x, SIZE);
        }
        x.row(0, 16);
        refusedBoth("size 16 of noughts", x, UNLIKE);
        for (int number : new int[] {0, 13, -1, 33, Integer.MIN_VALUE, Integer.MAX_VALUE}) {
            Checks.fill(x, 0, 1, 6, 1, 1, number, 1);
            refusedBoth("number " + number, x, UNLIKE);
        }
        for (int marked : new int[] {-1, 7, Integer.MIN_VALUE, Integer.MAX_VALUE}) {
            Checks.fill(x, 0, 1, 6, 1, marked);
            refusedBoth("marked " + marked, x, UNLIKE);
        }
        Checks.due("kinds(1, 0)", x.kinds(1, 0), CalledNumbers.BAD);
        Checks.due("kinds(-1, 0)", x.kinds(-1, 0), CalledNumbers.BAD);
        Checks.due("kinds(0, 6)", x.kinds(0, 6), CalledNumbers.BAD);
        Checks.due("kinds(0, -1)", x.kinds(0, -1), CalledNumbers.BAD);
        Checks.due("no players, kinds", new CalledNumbers().kinds(0, 0), CalledNumbers.BAD);
    }

    private static void nextOf(CalledNumbers x, int number, int part, int... pairs) {
        String what = "next by " + java.util.Arrays.toString(pairs);
        Checks.fill(x, 0, pairs);
        long before = x.digest();
        Checks.due(what, x.next(0, 0), number);
        Checks.due(what + ", asked()", x.asked(), part);
        Checks.due("digest() behind next", x.digest(), before);
    }

    private static void next() {
        CalledNumbers x = Checks.hallOf("p" + CARD);
        // By 1: four have 1 mark, a late one none, a sly one 2.
        nextOf(x, 1, 4);
        x.call(12);
        // By 1 again 4: a late one hears 12, a sly one both.
        nextOf(x, 1, 4);
        x.call(7);
        // At call 2 the deaf one and the sly one hear nothing, the late one hears 7.
        nextOf(x, 1, 3);
        x.call(1);
        // A late one hears 1, which is MARKED; a sly one marks 2 and 3.
        nextOf(x, 2, 4);
    }

    private static void nextIsNow() {
        CalledNumbers x = Checks.hallOf("p" + CARD);
        // KINDS 0, 1, 2, 3 are left; 1 is in the bag as long as it is not truly called.
        nextOf(x, 1, 4, 1, 1);
        nextOf(x, 1, 1, 1, 2);
        x.call(1);
        x.call(12);
        // KINDS 0, 1, 3 are left by 2; they are as one by each NUMBER.
        nextOf(x, 2, 3, 2, 2);
    }

    private static void nextAtTheEnd() {
        CalledNumbers x = Checks.hallOf("p" + CARD);
        for (int place = 0; place < 6; place++) {
            x.rub(0, place);
        }
        nextOf(x, 1, 6);
        x.rub(0, 0);
        // By 12 the sly one alone marks 1; by 1 the late one alone does not.
        nextOf(x, 1, 5);
        for (int number = 1; number <= 11; number++) {
            x.call(number);
        }
        // 12 alone is left; it is call 11, so that the sly one hears nothing; all is MARKED.
        nextOf(x, 12, 6);
    }

    private static void nextNone() {
        CalledNumbers x = Checks.hallOf("p" + CARD);
        x.player(0, 4);
        Checks.fill(x, 0, 1, 6);
        x.at(0, 1);
        Checks.due("next, no kind", x.next(0, 0), CalledNumbers.NONE);
        Checks.due("next, no kind, asked()", x.asked(), 6);
        for (int number = 1; number <= 12; number++) {
            x.call(number);
        }
        x.row(0, 0);
        Checks.due("kinds, the bag is empty", x.kinds(0, 0), 63);
        Checks.due("next, the bag is empty", x.next(0, 0), CalledNumbers.NONE);
        Checks.due("next, the bag is empty, asked()", x.asked(), 6);
    }

    private static void nextRefused() {
        CalledNumbers x = Checks.hallOf("p" + CARD);
        x.row(0, 0);
        Checks.due("next(1, 0)", x.next(1, 0), CalledNumbers.BAD);
        Checks.due("next(-1, 0)", x.next(-1, 0), CalledNumbers.BAD);
        Checks.due("next(0, 6)", x.next(0, 6), CalledNumbers.BAD);
        Checks.due("next(0, -1)", x.next(0, -1), CalledNumbers.BAD);
        Checks.due("no players, next", new CalledNumbers().next(0, 0), CalledNumbers.BAD);
    }
}
