/** Promises 29 to 31, sentence by sentence. */
final class EdgesOfLots {
    private static final String CARD = "010203040506";
    private static final int LAST_SEED = 2147483646;

    private EdgesOfLots() {
    }

    static void all() {
        odds();
        mid();
        chancesRefused();
        lots();
        lotsByHand();
        lotsCall();
        lotsWon();
        lotsRefused();
    }

    private static void odds() {
        Doc.says(29, "Chances that a PLAYER has WON behind them: 1.");
        CalledNumbers x = Checks.hallOf("p" + CARD + "d" + CARD + "l" + CARD + "s" + CARD);
        x.card(0, 5);
        long before = x.digest();
        Checks.share("p behind 0", x, x.odds(0, 0), 0, 1);
        Checks.share("p behind 2", x, x.odds(0, 2), 0, 1);
        Checks.share("p behind 3", x, x.odds(0, 3), 1, 110);
        Checks.share("d behind 3", x, x.odds(1, 3), 0, 1);
        Checks.share("s behind 1", x, x.odds(3, 1), 0, 1);
        // By 1 and 2, 1 and 3, 12 and 2, 4 and 5, 4 and 6, 3 and 5 of 66.
        Checks.share("s behind 2", x, x.odds(3, 2), 1, 11);
        Checks.due("digest() behind odds", x.digest(), before);
        Checks.due("asked() behind odds", x.asked(), 6);
        x.call(1);
        x.call(2);
        Checks.share("p, by 3 of ten", x, x.odds(0, 1), 1, 10);
        Checks.share("s has won", x, x.odds(3, 0), 1, 1);
        Checks.share("s has won, whatever comes", x, x.odds(3, 3), 1, 1);
        x.rub(0, 2);
        Checks.share("p has it, but no call", x, x.odds(0, 0), 0, 1);
        Checks.share("p has it, and wins by each", x, x.odds(0, 1), 1, 1);
        x.rub(0, 2);
        for (int number = 7; number <= 12; number++) {
            x.call(number);
        }
        // 3, 4, 5, 6 are left.
        Checks.share("p, one of four", x, x.odds(0, 1), 1, 4);
        Checks.share("p, two of four", x, x.odds(0, 2), 1, 2);
        Checks.share("p, three of four", x, x.odds(0, 3), 1, 1);
        for (int number = 3; number <= 6; number++) {
            x.call(number);
        }
        Checks.share("l, the bag is empty", x, x.odds(2, 3), 0, 1);
        Checks.share("p, the bag is empty", x, x.odds(0, 3), 1, 1);
    }

    private static void mid() {
        Doc.says(30, "The mean of how many PLACES of a PLAYER are MARKED behind them: 1.");
        CalledNumbers x = Checks.hallOf("p" + CARD + "d" + CARD + "l" + CARD + "s" + CARD);
        x.card(0, 5);
        long before = x.digest();
        int[][] halves = {{0, 1, 2, 3}, {0, 1, 2, 2}, {0, 0, 1, 2}};
        for (int i = 0; i < 3; i++) {
            for (int n = 0; n <= 3; n++) {
                int upper = halves[i][n];
                Checks.share("mid(" + i + ", " + n + ")", x, x.mid(i, n),
                    upper % 2 == 0 ? upper / 2 : upper, upper % 2 == 0 ? 1 : 2);
            }
        }
        // By 12 one, by 1 .. 5 two each, by 6 one.
        Checks.share("s behind 1", x, x.mid(3, 1), 1, 1);
        Checks.due("digest() behind mid", x.digest(), before);
        Checks.due("asked() behind mid", x.asked(), 6);
        x.rub(0, 0);
        Checks.share("by hand", x, x.mid(0, 0), 1, 1);
        Checks.share("by hand, and 5 of 12", x, x.mid(0, 1), 17, 12);
        for (int number = 1; number <= 11; number++) {
            x.call(number);
        }
        Checks.share("12 is left", x, x.mid(0, 3), 6, 1);
        x.undo(11);
        Checks.share("11 and 12 are left", x, x.mid(2, 1), 6, 1);
        x.call(11);
        x.call(12);
        for (int n = 0; n <= 3; n++) {
            Checks.share("the bag is empty", x, x.mid(0, n), 6, 1);
        }
    }

    private static void chancesRefused() {
        CalledNumbers none = new CalledNumbers();
        CalledNumbers x = Checks.hallOf("p" + CARD + "w" + CARD);
        x.odds(0, 3);
        Doc.says(29, "BAD.");
        Checks.bad("without players", none, () -> none.odds(0, 0));
        for (int i : Checks.outside(0, 1)) {
            Checks.bad("odds(" + i + ", 1)", x, () -> x.odds(i, 1));
        }
        for (int n : Checks.outside(0, 3)) {
            Checks.bad("odds(0, " + n + ")", x, () -> x.odds(0, n));
        }
        Doc.says(30, "BAD.");
        Checks.bad("without players", none, () -> none.mid(0, 0));
        for (int i : Checks.outside(0, 1)) {
            Checks.bad("mid(" + i + ", 1)", x, () -> x.mid(i, 1));
        }
        for (int n : Checks.outside(0, 3)) {
            Checks.bad("mid(0, " + n + ")", x, () -> x.mid(0, n));
        }
    }

    /** The number that comes first of a seed. */
    private static long first(int seed) {
        return 48271L * seed % 2147483647L;
    }

    private static void lots() {
        Doc.says(31, "n (1 .. 20) DEEDS truly by LOTS of a seed: for each a number:");
        for (int seed : new int[] {1, 2, 12345, 1 << 30, LAST_SEED - 1, LAST_SEED}) {
            for (int n : new int[] {1, 2, 19, 20}) {
                CalledNumbers x = Checks.hallOf("p" + CARD + "s" + CARD + "l" + CARD);
                CalledNumbers y = Checks.hallOf("p" + CARD + "s" + CARD + "l" + CARD);
                ChancesTest.byHand(y, 3, n, seed);
                Checks.due("lots(" + n + ", " + seed + ")", x.lots(n, seed), y.count(5));
                Checks.due("deeds", x.count(2), n);
                Checks.due("digest()", x.digest(), y.digest());
                x.keep(0);
                Checks.due("undone", x.undo(n - 1), 1);
                y.undo(n - 1);
                y.keep(0);
                Checks.due("kept", x.count(2), n - 1);
                Checks.due("gone on from", x.on(0), n);
            }
        }
    }

    private static void lotsByHand() {
        Doc.says(31, "if it by 8, cut, modulo 8 is 7, or the bag is empty, PLACE it by 64, cut, modulo 6 "
            + "of PLAYER it modulo how many there are is MARKED, or rubbed out;");
        int[] seen = new int[8];
        for (int seed = 1; seed <= 64; seed++) {
            long it = first(seed);
            int eighth = (int) (it / 8 % 8);
            seen[eighth]++;
            CalledNumbers x = Checks.hallOf(("p" + CARD).repeat(4));
            x.lots(1, seed);
            Checks.due("a call by " + it, x.count(1), eighth == 7 ? 0 : 1);
            if (eighth == 7) {
                Checks.told("by hand by " + it, x, x.player((int) (it % 4), 1), 1 << it / 64 % 6);
                x.lots(1, seed);
                Checks.due("rubbed out by " + it, x.count(6), 0);
            }
        }
        for (int eighth = 0; eighth < 8; eighth++) {
            Checks.holds("a lot with " + eighth, seen[eighth] > 0);
        }
        for (int players = 1; players <= 4; players++) {
            CalledNumbers x = Checks.hallOf(("p" + CARD).repeat(players));
            for (int number = 1; number <= 12; number++) {
                x.call(number);
            }
            for (int seed = 1; seed <= 20; seed++) {
                long it = first(seed);
                x.undo(12);
                x.lots(1, seed);
                int i = (int) (it % players);
                Checks.told("empty bag, by " + it, x, x.player(i, 1), 63 & ~(1 << it / 64 % 6));
                Checks.due("empty bag, one mark less", x.count(6), 6 * players - 1);
            }
        }
    }

    private static void lotsCall() {
        Doc.says(31, "else the first NUMBER in the bag is called, from 1 more than it modulo 12 on, behind 12 comes 1:");
        for (int seed = 1; seed <= 200; seed++) {
            long it = first(seed);
            if (it / 8 % 8 != 7) {
                int from = (int) (it % 12) + 1;
                int next = from % 12 + 1;
                CalledNumbers x = Checks.hallOf("p" + CARD);
                x.lots(1, seed);
                Checks.due("in the bag, by " + it, x.count(4), from);
                x.lots(1, seed);
                Checks.due("called already, by " + it, x.count(4), next);
                // The one ahead of it is the last that is come to.
                x.undo(0);
                int last = from == 1 ? 12 : from - 1;
                for (int number = 1; number <= 12; number++) {
                    if (number != last) {
                        x.call(number);
                    }
                }
                x.lots(1, seed);
                Checks.due("all others are called, by " + it, x.count(4), last);
                Checks.due("the bag is empty", x.count(3), 0);
            }
        }
    }

    private static void lotsWon() {
        Doc.says(31, "PLAYERS (bits) who have WON then.");
        CalledNumbers x = Checks.hallOf("p" + CARD + "w" + CARD);
        x.call(1);
        x.call(2);
        x.call(3);
        Checks.due("one has won ahead", x.lots(1, 1), 1);
        for (int place = 3; place <= 5; place++) {
            x.rub(1, place);
        }
        // Both: the lot calls 7.
        Checks.due("another one then", x.lots(1, 1), 3);
        x.undo(0);
        Checks.due("nobody", x.lots(2, 1), 0);
    }

    private static void lotsRefused() {
        CalledNumbers none = new CalledNumbers();
        CalledNumbers x = Checks.hallOf("p" + CARD);
        Doc.says(31, "BAD");
        for (int n : Checks.outside(1, 20)) {
            Checks.bad("lots(" + n + ", 1)", x, () -> x.lots(n, 1));
            Checks.bad("lots(" + n + ", 1) without players", none, () -> none.lots(n, 1));
        }
        for (int seed : Checks.outside(1, LAST_SEED)) {
            Checks.bad("lots(1, " + seed + ")", x, () -> x.lots(1, seed));
            Checks.bad("lots(1, " + seed + ") without players", none, () -> none.lots(1, seed));
        }
        Doc.says(31, "STATE: no PLAYERS");
        Checks.stays("lots(1, 1)", none, CalledNumbers.STATE, () -> none.lots(1, 1));
        Checks.stays("lots(20, last)", none, CalledNumbers.STATE, () -> none.lots(20, LAST_SEED));
        Doc.says(31, "FULL: with n more there would be more than 40 DEEDS.");
        for (int n : new int[] {1, 2, 20}) {
            CalledNumbers y = EdgesOfDeeds.rubbed(40 - n);
            Checks.holds(n + " more are 40", y.lots(n, 5) >= 0);
            Checks.due("deeds", y.count(2), 40);
            CalledNumbers z = EdgesOfDeeds.rubbed(41 - n);
            Checks.stays(n + " more are 41", z, CalledNumbers.FULL, () -> z.lots(n, 5));
        }
        Doc.says(31, "(FULL last.)");
        CalledNumbers full = EdgesOfDeeds.rubbed(40);
        Checks.stays("FULL", full, CalledNumbers.FULL, () -> full.lots(1, 1));
        Checks.bad("BAD ahead of FULL, lots(21, 1)", full, () -> full.lots(21, 1));
        Checks.bad("BAD ahead of FULL, lots(20, 0)", full, () -> full.lots(20, 0));
    }
}
