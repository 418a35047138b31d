import java.util.Arrays;

/** Promises 25 to 28, sentence by sentence. */
final class EdgesOfKinds {
    private static final int NOTHING = 1, UNLIKE = 3, SIZE = 5;
    private static final String CARD = "010203040506";
    private static final String HIGH = "070809101112";
    private static final int[] NO_ROWS = Checks.outside(0, 5);
    /** Those who hear as a plain one does. */
    private static final int AS_PLAIN = 1 | 2 | 8;
    private static final int DEAF = 4, LATE = 16, SLY = 32;

    private EdgesOfKinds() {
    }

    static void all() {
        which();
        whichRefused();
        kinds();
        kindsFromNowOn();
        pairsRefused();
        next();
        nextNone();
        duel();
        duelShort();
        duelRefused();
    }

    private static void which() {
        Doc.says(25, "NUMBERS (bits) in the bag that, called now, could be the one behind which "
            + "a PLAYER's MARKED PLACES are a told set (0 .. 63).");
        CalledNumbers x = Checks.hallOf("p" + CARD + "s" + CARD + "l" + CARD + "d" + CARD);
        for (int places = 0; places < 64; places++) {
            int want = places == 0 ? Checks.bits(7, 8, 9, 10, 11, 12)
                : Integer.bitCount(places) == 1 ? places << 1 : 0;
            Checks.due("p, which(0, " + places + ")", x.which(0, places), want);
        }
        Checks.stays("s, 1 by 12", x, Checks.bits(12), () -> x.which(1, 1));
        Checks.stays("s, 1 and 2 by 1", x, Checks.bits(1), () -> x.which(1, 3));
        Checks.stays("s, 6 alone by 6", x, Checks.bits(6), () -> x.which(1, 32));
        Checks.stays("s, none", x, Checks.bits(7, 8, 9, 10, 11), () -> x.which(1, 0));
        Checks.stays("l, none by each", x, Checks.BAG, () -> x.which(2, 0));
        x.call(1);
        x.call(12);
        int bag = Checks.BAG & ~Checks.bits(1, 12);
        Checks.stays("d, nothing is heard at call 2", x, bag, () -> x.which(3, 1));
        Checks.stays("d, 2 is not heard", x, 0, () -> x.which(3, 3));
        Checks.stays("l, 12 is heard and not there", x, bag, () -> x.which(2, 1));
        Checks.stays("p, 1 is marked", x, Checks.bits(7, 8, 9, 10, 11), () -> x.which(0, 1));
        Checks.stays("p, 1 is not in the bag", x, 0, () -> x.which(0, 0));
        x.rub(0, 0);
        Checks.stays("p, 1 is rubbed out", x, Checks.bits(7, 8, 9, 10, 11), () -> x.which(0, 0));
        CalledNumbers y = Checks.hallOf("p" + CARD);
        for (int place = 0; place < 5; place++) {
            y.rub(0, place);
        }
        Checks.stays("all places", y, Checks.bits(6), () -> y.which(0, 63));
        for (int number = 1; number <= 12; number++) {
            y.call(number);
        }
        Checks.stays("the bag is empty", y, 0, () -> y.which(0, 63));
    }

    private static void whichRefused() {
        Doc.says(25, "BAD.");
        CalledNumbers none = new CalledNumbers();
        Checks.bad("without players", none, () -> none.which(0, 0));
        CalledNumbers x = Checks.hallOf("p" + CARD + "w" + CARD);
        for (int i : Checks.outside(0, 1)) {
            Checks.bad("which(" + i + ", 0)", x, () -> x.which(i, 0));
        }
        for (int places : Checks.outside(0, 63)) {
            Checks.bad("which(0, " + places + ")", x, () -> x.which(0, places));
        }
    }

    private static void kindsBy(CalledNumbers x, int want, int... pairs) {
        Checks.fill(x, 0, pairs);
        Checks.stays("kinds by " + Arrays.toString(pairs), x, want, () -> x.kinds(0, 0));
    }

    private static void kinds() {
        Doc.says(26, "Of which KINDS (bits) a PLAYER can be by a ROW of 0 to 8 pairs");
        for (char own : "pwdhls".toCharArray()) {
            CalledNumbers x = Checks.hallOf(own + CARD);
            kindsBy(x, 63);
            kindsBy(x, AS_PLAIN | DEAF, 1, 1);
            kindsBy(x, LATE, 1, 0);
            kindsBy(x, SLY, 1, 2);
            kindsBy(x, 0, 1, 3);
            kindsBy(x, 0, 1, 6);
            kindsBy(x, SLY, 12, 1);
            kindsBy(x, 63, 7, 0);
            kindsBy(x, AS_PLAIN, 1, 1, 2, 2, 3, 3);
            kindsBy(x, DEAF, 1, 1, 2, 2, 3, 2);
            kindsBy(x, AS_PLAIN, 7, 0, 8, 0, 1, 1, 9, 1, 10, 1, 2, 2, 11, 2, 3, 3);
            kindsBy(x, LATE, 1, 0, 2, 1, 3, 2, 4, 3, 5, 4, 6, 5, 7, 6, 8, 6);
        }
        Doc.says(26, "(a NUMBER, called behind those ahead, from now on, if it is in the bag: else it is of none;");
        CalledNumbers x = Checks.hallOf("p" + CARD);
        kindsBy(x, 0, 7, 0, 7, 0);
        kindsBy(x, 63, 7, 0, 8, 0);
        x.call(9);
        kindsBy(x, 0, 9, 0);
        kindsBy(x, 0, 8, 0, 9, 0);
        kindsBy(x, 63, 8, 0);
        Doc.says(26, "how many PLACES are MARKED then)");
        for (int place = 0; place < 6; place++) {
            x.rub(0, place);
        }
        for (int marked = 0; marked <= 6; marked++) {
            kindsBy(x, marked == 6 ? 63 : 0, 1, marked);
        }
    }

    private static void kindsFromNowOn() {
        Doc.says(26, "all else as it is.");
        CalledNumbers x = Checks.hallOf("s" + CARD);
        x.call(2);
        x.call(9);
        // 2 and 3 are MARKED; it is call 2, at which the deaf ones hear nothing; 9 was called ahead.
        kindsBy(x, AS_PLAIN, 1, 3);
        kindsBy(x, DEAF | LATE | SLY, 1, 2);
        kindsBy(x, LATE | SLY, 1, 2, 12, 3);
        kindsBy(x, DEAF, 1, 2, 12, 2);
        kindsBy(x, SLY, 11, 2, 12, 3);
        kindsBy(x, AS_PLAIN | DEAF | LATE, 11, 2, 12, 2);
        x.rub(0, 1);
        kindsBy(x, AS_PLAIN, 1, 2);
        kindsBy(x, DEAF | LATE | SLY, 1, 1);
        kindsBy(x, 63);
    }

    private static void findsBoth(String what, CalledNumbers x, int finding, int kindsPromise, int nextPromise,
        String words) {
        Doc.says(kindsPromise, words);
        Checks.finds("kinds, " + what, x, finding, () -> x.kinds(0, 0));
        Doc.says(nextPromise, words);
        Checks.finds("next, " + what, x, finding, () -> x.next(0, 0));
    }

    private static void badBoth(int promise, boolean next) {
        Doc.says(promise, "BAD");
        CalledNumbers none = new CalledNumbers();
        none.row(0, 0);
        Checks.bad("without players", none, () -> next ? none.next(0, 0) : none.kinds(0, 0));
        CalledNumbers x = Checks.hallOf("p" + CARD + "w" + CARD);
        x.row(1, 0);
        for (int i : Checks.outside(0, 1)) {
            Checks.bad("player " + i, x, () -> next ? x.next(i, 1) : x.kinds(i, 1));
            Checks.bad("player " + i + ", a missing row", x, () -> next ? x.next(i, 0) : x.kinds(i, 0));
        }
        for (int r : NO_ROWS) {
            Checks.bad("row " + r, x, () -> next ? x.next(0, r) : x.kinds(0, r));
        }
    }

    private static void pairsRefused() {
        badBoth(26, false);
        badBoth(27, true);
        CalledNumbers x = Checks.hallOf("p" + CARD);
        x.card(0, 1);
        findsBoth("a missing row", x, NOTHING, 26, 27, "NOTHING");
        for (int size : new int[] {1, 3, 15, 17, 18, 39, 40}) {
            x.row(0, size);
            findsBoth("size " + size, x, SIZE, 26, 27, "SIZE");
        }
        int[] eight = {1, 1, 2, 2, 3, 3, 4, 4, 5, 5, 6, 6, 7, 6, 8, 6};
        Checks.fill(x, 0, eight);
        Checks.due("size 16", x.kinds(0, 0), AS_PLAIN);
        Checks.due("size 16", x.next(0, 0), 1);
        Doc.says(26, "UNLIKE: no NUMBER, not 0 .. 6.");
        for (int k = 0; k < 16; k++) {
            for (int no : k % 2 == 0 ? Checks.outside(1, 12) : Checks.outside(0, 6)) {
                CalledNumbers y = Checks.hallOf("p" + CARD);
                Checks.fill(y, 0, eight);
                y.lay(0, k, no);
                findsBoth(no + " at place " + k, y, UNLIKE, 26, 27, "UNLIKE");
            }
        }
        // Behind a pair by which it is of no KIND it is seen, too.
        Checks.fill(x, 0, 1, 6, 1, 6, 13, 0);
        findsBoth("behind a pair that can't be", x, UNLIKE, 26, 27, "UNLIKE");
        Checks.fill(x, 0, 1, 6, 1, 6, 2, 7);
        findsBoth("behind a pair that can't be", x, UNLIKE, 26, 27, "UNLIKE");
    }

    private static void nextBy(CalledNumbers x, int number, int part, int... pairs) {
        String what = "next by " + Arrays.toString(pairs);
        Checks.fill(x, 0, pairs);
        long before = x.digest();
        Checks.due(what, x.next(0, 0), number);
        Checks.due(what + ", asked()", x.asked(), part);
        Checks.due(what + ", digest() behind it", x.digest(), before);
    }

    private static void next() {
        Doc.says(27, "The NUMBER in the bag (the first) to call now to tell these KINDS apart best:");
        CalledNumbers x = Checks.hallOf("p" + CARD);
        nextBy(x, 1, 4);
        x.call(1);
        // A late one has nothing new, a sly one 2 and 3.
        nextBy(x, 2, 4);
        CalledNumbers y = Checks.hallOf("p121110090807");
        // By 6 a sly one alone marks one; by 7 a late one marks none, a sly one two.
        nextBy(y, 7, 4);
        y.call(12);
        nextBy(y, 7, 4);
        CalledNumbers z = Checks.hallOf("p010203040512");
        for (int place = 0; place < 5; place++) {
            z.rub(0, place);
        }
        // Only 12 is not MARKED: by 11 a sly one marks it, by 12 all but a late one.
        nextBy(z, 11, 5);
        nextBy(z, 11, 4, 12, 6, 1, 6, 2, 6, 3, 6);
        nextBy(z, 1, 1, 12, 5);
        Doc.says(27, "the greatest part of which as many PLACES are MARKED then is least; that part by asked().");
        CalledNumbers deaf = Checks.hallOf("p" + CARD);
        deaf.call(12);
        deaf.call(7);
        // At call 2 the deaf ones and a late one hear nothing of the card: three and three.
        nextBy(deaf, 1, 3);
        // One KIND alone is a part of one.
        nextBy(Checks.hallOf("p" + CARD), 1, 1, 1, 2);
        CalledNumbers all = Checks.hallOf("p" + CARD);
        for (int place = 0; place < 6; place++) {
            all.rub(0, place);
        }
        nextBy(all, 1, 6);
    }

    private static void nextNone() {
        Doc.says(27, "NONE: there is no KIND, or the bag is empty.");
        CalledNumbers x = Checks.hallOf("p" + CARD);
        x.card(0, 4);
        Checks.fill(x, 0, 1, 6);
        x.card(0, 4);
        Checks.stays("no kind", x, CalledNumbers.NONE, () -> x.next(0, 0));
        for (int number = 1; number <= 11; number++) {
            x.call(number);
        }
        x.row(0, 0);
        Checks.due("12 is left", x.next(0, 0), 12);
        Checks.due("and all are of one part", x.asked(), 6);
        x.call(12);
        Checks.stays("the bag is empty", x, CalledNumbers.NONE, () -> x.next(0, 0));
        Checks.stays("all kinds are left", x, 63, () -> x.kinds(0, 0));
        Checks.fill(x, 0, 1, 6);
        Checks.stays("no kind, and the bag is empty", x, CalledNumbers.NONE, () -> x.next(0, 0));
    }

    private static void duelIs(CalledNumbers x, int i, int j, int n, int want) {
        long before = x.digest();
        String what = "duel(" + i + ", " + j + ", " + n + ")";
        Checks.told(what, x, x.duel(i, j, n), want);
        Checks.due(what + ", digest() behind it", x.digest(), before);
    }

    private static void duel() {
        Doc.says(28, "By turns two call a NUMBER that is in the bag, n (0 .. 2) times each");
        CalledNumbers x = Checks.hallOf("p" + CARD + "p" + HIGH + "s" + CARD + "l" + CARD);
        duelIs(x, 0, 1, 0, 0);
        duelIs(x, 0, 1, 1, 0);
        duelIs(x, 0, 1, 2, 0);
        duelIs(x, 2, 1, 1, 1);
        Doc.says(28, "the first one begins");
        // A late one hears at the second call what the first one called.
        duelIs(x, 3, 1, 1, 0);
        duelIs(x, 1, 3, 1, 1);
        // At the fourth call, the second one's, it hears what the first one called at the third.
        duelIs(x, 3, 1, 2, 0);
        duelIs(x, 1, 3, 2, 1);
        Doc.says(28, "how many more PLACES are MARKED of PLAYER i than of another one, j, then");
        for (int place = 0; place < 6; place++) {
            x.rub(0, place);
        }
        duelIs(x, 0, 1, 0, 6);
        duelIs(x, 1, 0, 0, -6);
        Doc.says(28, "and 10 more, if i has WON, 10 less, if j has");
        x.call(12);
        duelIs(x, 0, 1, 0, 15);
        duelIs(x, 1, 0, 0, -15);
        x.call(11);
        x.call(10);
        // Both have WON.
        duelIs(x, 0, 1, 0, 3);
        duelIs(x, 1, 0, 0, -3);
        for (int place = 0; place < 6; place++) {
            x.rub(0, place);
        }
        duelIs(x, 0, 1, 0, -3);
        Doc.says(28, "the first one wanting that to be much, the second little, told by asked(): 1.");
        CalledNumbers y = Checks.hallOf("p" + CARD + "p" + HIGH);
        y.call(1);
        y.call(2);
        // The first one wins by 3; the second one can but mark one more.
        duelIs(y, 0, 1, 1, 12);
        duelIs(y, 1, 0, 1, -12);
        y.call(12);
        y.call(11);
        duelIs(y, 0, 1, 1, 0);
        duelIs(y, 1, 0, 1, 0);
        y.call(10);
        // The second one has WON; the first one wins by 3, then one more of the second one is MARKED.
        duelIs(y, 0, 1, 1, -1);
        CalledNumbers z = Checks.hallOf("p" + CARD + "p" + HIGH);
        for (int number = 2; number <= 6; number++) {
            z.call(number);
        }
        // 1 is the only one that is left to the first one.
        duelIs(z, 0, 1, 1, 15);
        duelIs(z, 0, 1, 2, 13);
    }

    private static void duelShort() {
        Doc.says(28, "as long as there is one");
        CalledNumbers x = Checks.hallOf("p" + CARD + "p" + HIGH);
        for (int number = 1; number <= 9; number++) {
            x.call(number);
        }
        // 10, 11, 12 are left: the first one can't but call one of them, and so on.
        duelIs(x, 0, 1, 0, 3);
        duelIs(x, 0, 1, 1, 1);
        duelIs(x, 0, 1, 2, 0);
        x.call(10);
        x.call(11);
        duelIs(x, 0, 1, 1, 0);
        duelIs(x, 0, 1, 2, 0);
        x.call(12);
        for (int n = 0; n <= 2; n++) {
            duelIs(x, 0, 1, n, 0);
        }
    }

    private static void duelRefused() {
        Doc.says(28, "BAD.");
        CalledNumbers none = new CalledNumbers();
        Checks.bad("without players", none, () -> none.duel(0, 1, 0));
        CalledNumbers one = Checks.hallOf("p" + CARD);
        Checks.bad("of one", one, () -> one.duel(0, 1, 0));
        CalledNumbers x = Checks.hallOf("p" + CARD + "p" + HIGH);
        x.card(1, 0);
        for (int i : Checks.outside(0, 1)) {
            Checks.bad("duel(" + i + ", 0, 1)", x, () -> x.duel(i, 0, 1));
            Checks.bad("duel(0, " + i + ", 1)", x, () -> x.duel(0, i, 1));
        }
        for (int n : Checks.outside(0, 2)) {
            Checks.bad("duel(0, 1, " + n + ")", x, () -> x.duel(0, 1, n));
        }
        Checks.bad("no other one, duel(0, 0, 0)", x, () -> x.duel(0, 0, 0));
        Checks.bad("no other one, duel(1, 1, 2)", x, () -> x.duel(1, 1, 2));
    }
}
