/** Promises 29 to 31: odds, mid, lots. */
final class ChancesTest {
    private static final String CARD = "010203040506";

    public static void main(String[] args) {
        odds();
        mid();
        shortBag();
        chancesRefused();
        lots();
        lotsRubAlone();
        lotsRefused();
        Checks.end();
    }

    private static void odds() {
        CalledNumbers x = Checks.hallOf("p" + CARD + "s" + CARD + "l" + CARD);
        Checks.share("odds(0, 0)", x, x.odds(0, 0), 0, 1);
        Checks.share("odds(0, 2)", x, x.odds(0, 2), 0, 1);
        // Two lines of 220 threes.
        Checks.share("odds(0, 3)", x, x.odds(0, 3), 1, 110);
        x.call(1);
        x.call(2);
        // By 3 of ten, heard by all but the deaf ones at call 2.
        Checks.share("odds(0, 1), behind 1, 2", x, x.odds(0, 1), 1, 10);
        Checks.share("odds(1, 1), behind 1, 2", x, x.odds(1, 1), 1, 1);
        x.undo(1);
        // Behind 1 the sly one wins by 2, and by 3.
        Checks.share("odds(1, 1), behind 1", x, x.odds(1, 1), 2, 11);
        x.undo(0);
        x.rub(0, 0);
        x.rub(0, 1);
        x.rub(0, 2);
        long before = x.digest();
        Checks.share("odds(0, 0), by hand", x, x.odds(0, 0), 0, 1);
        Checks.share("odds(0, 1), by hand", x, x.odds(0, 1), 1, 1);
        Checks.share("odds(2, 3)", x, x.odds(2, 3), 0, 1);
        Checks.due("digest() behind odds", x.digest(), before);
    }

    private static void mid() {
        CalledNumbers x = Checks.hallOf("p" + CARD + "d" + CARD + "l" + CARD + "s" + CARD);
        Checks.share("mid(0, 0)", x, x.mid(0, 0), 0, 1);
        Checks.share("mid(0, 1)", x, x.mid(0, 1), 1, 2);
        Checks.share("mid(0, 2)", x, x.mid(0, 2), 1, 1);
        Checks.share("mid(0, 3)", x, x.mid(0, 3), 3, 2);
        Checks.share("mid(1, 3)", x, x.mid(1, 3), 1, 1);
        Checks.share("mid(2, 1)", x, x.mid(2, 1), 0, 1);
        Checks.share("mid(2, 2)", x, x.mid(2, 2), 1, 2);
        Checks.share("mid(3, 1)", x, x.mid(3, 1), 1, 1);
        x.rub(0, 5);
        long before = x.digest();
        Checks.share("mid(0, 1), one by hand", x, x.mid(0, 1), 17, 12);
        Checks.share("mid(0, 0), one by hand", x, x.mid(0, 0), 1, 1);
        Checks.due("digest() behind mid", x.digest(), before);
        Checks.due("asked() behind mid", x.asked(), 0);
    }

    private static void shortBag() {
        CalledNumbers x = Checks.hallOf("p" + CARD);
        for (int number = 12; number >= 4; number--) {
            x.call(number);
        }
        x.undo(6);
        for (int number = 1; number <= 4; number++) {
            x.call(number);
        }
        // 5 and 6 are left; the upper line is won already.
        Checks.share("odds(0, 3)", x, x.odds(0, 3), 1, 1);
        Checks.share("mid(0, 1)", x, x.mid(0, 1), 5, 1);
        Checks.share("mid(0, 3)", x, x.mid(0, 3), 6, 1);
        x.call(5);
        x.call(6);
        Checks.share("mid(0, 3), the bag is empty", x, x.mid(0, 3), 6, 1);
    }

    private static void chancesRefused() {
        CalledNumbers x = Checks.hallOf("p" + CARD);
        x.odds(0, 3);
        for (int n : new int[] {-1, 4, Integer.MIN_VALUE, Integer.MAX_VALUE}) {
            Checks.due("odds(0, " + n + ")", x.odds(0, n), CalledNumbers.BAD);
            Checks.due("mid(0, " + n + ")", x.mid(0, n), CalledNumbers.BAD);
        }
        for (int i : new int[] {-1, 1, 4, Integer.MIN_VALUE, Integer.MAX_VALUE}) {
            Checks.due("odds(" + i + ", 1)", x.odds(i, 1), CalledNumbers.BAD);
            Checks.due("mid(" + i + ", 1)", x.mid(i, 1), CalledNumbers.BAD);
        }
        Checks.due("no players, odds", new CalledNumbers().odds(0, 0), CalledNumbers.BAD);
        Checks.due("no players, mid", new CalledNumbers().mid(0, 0), CalledNumbers.BAD);
        Checks.due("upper() behind refusals", x.upper(), 1);
        Checks.due("lower() behind refusals", x.lower(), 110);
    }

    /** Does the lots of a seed by call() and rub(), with the number worked out another way. */
    static void byHand(CalledNumbers y, int players, int n, int seed) {
        java.math.BigInteger lot = java.math.BigInteger.valueOf(seed);
        java.math.BigInteger modulus = java.math.BigInteger.TWO.pow(31).subtract(java.math.BigInteger.ONE);
        for (int k = 0; k < n; k++) {
            lot = lot.multiply(java.math.BigInteger.valueOf(48271)).mod(modulus);
            int it = lot.intValueExact();
            if ((it >> 3 & 7) == 7 || y.count(3) == 0) {
                Checks.holds("rub by lot", y.rub(it % players, (it >> 6) % 6) >= 0);
            } else {
                int number = it % 12 + 1;
                int answer = y.call(number);
                while (answer == CalledNumbers.STATE) {
                    number = number == 12 ? 1 : number + 1;
                    answer = y.call(number);
                }
            }
        }
    }

    private static void lots() {
        String hall = "p" + CARD + "s020406081012" + "d121110090807";
        int[] seeds = {1, 2, 3, 7, 77, 48271, 1000000007, 2147483646, 123456789};
        for (int seed : seeds) {
            CalledNumbers x = Checks.hallOf(hall);
            CalledNumbers y = Checks.hallOf(hall);
            for (int n : new int[] {1, 5, 14, 20}) {
                byHand(y, 3, n, seed);
                Checks.due("lots(" + n + ", " + seed + ")", x.lots(n, seed), y.count(5));
                Checks.due("digest() behind lots", x.digest(), y.digest());
            }
            Checks.due("undo(1) behind lots", x.undo(1), 39);
            y.undo(1);
            Checks.due("digest() behind undo", x.digest(), y.digest());
        }
    }

    private static void lotsRubAlone() {
        CalledNumbers x = Checks.hallOf("p" + CARD);
        for (int number = 1; number <= 12; number++) {
            x.call(number);
        }
        // 48271: PLACE 754 modulo 6, which is 4, of the only PLAYER.
        Checks.due("lots(1, 1), the bag is empty", x.lots(1, 1), 1);
        Checks.told("rubbed out", x, x.player(0, 1), 63 - 16);
    }

    private static void lotsRefused() {
        CalledNumbers none = new CalledNumbers();
        Checks.due("no players, lots(1, 1)", none.lots(1, 1), CalledNumbers.STATE);
        Checks.due("no players, lots(0, 1)", none.lots(0, 1), CalledNumbers.BAD);
        CalledNumbers x = Checks.hallOf("p" + CARD);
        for (int n : new int[] {0, -1, 21, Integer.MIN_VALUE, Integer.MAX_VALUE}) {
            Checks.due("lots(" + n + ", 1)", x.lots(n, 1), CalledNumbers.BAD);
        }
        for (int seed : new int[] {0, -1, Integer.MIN_VALUE, Integer.MAX_VALUE}) {
            Checks.due("lots(1, " + seed + ")", x.lots(1, seed), CalledNumbers.BAD);
        }
        x.lots(20, 9);
        Checks.holds("lots, 39 deeds", x.lots(19, 9) >= 0);
        long before = x.digest();
        Checks.due("lots, 41 deeds", x.lots(2, 9), CalledNumbers.FULL);
        Checks.due("lots, 41 deeds, bad", x.lots(2, 0), CalledNumbers.BAD);
        Checks.due("digest() behind refusals", x.digest(), before);
        Checks.holds("lots, 40 deeds", x.lots(1, 9) >= 0);
        Checks.due("lots, one more", x.lots(1, 9), CalledNumbers.FULL);
    }
}
