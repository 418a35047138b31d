/** Promises 12 to 14: player, card, mark. */
final class PlayersTest {
    private static final int UNLIKE = 3;
    private static final String CARD = "010203040506";
    private static final int[] ODD = {-1, 4, 6, Integer.MIN_VALUE, Integer.MAX_VALUE};

    public static void main(String[] args) {
        kindsAndLacks();
        hastyLacks();
        wonAndHas();
        card();
        whole();
        deaf();
        hasty();
        late();
        sly();
        unlike();
        refused();
        Checks.end();
    }

    /** Marks these places by hand and looks at what player() tells. */
    private static void after(String letter, int places, int has, int lacks) {
        CalledNumbers x = Checks.hallOf(letter + CARD);
        for (int place = 0; place < 6; place++) {
            if ((places >> place & 1) == 1) {
                x.rub(0, place);
            }
        }
        String what = letter + " with " + places;
        Checks.told(what + ", marked", x, x.player(0, 1), places);
        Checks.told(what + ", won", x, x.player(0, 2), 0);
        Checks.told(what + ", has", x, x.player(0, 3), has);
        Checks.told(what + ", lacks", x, x.player(0, 4), lacks);
    }

    private static void kindsAndLacks() {
        String letters = "pwdhls";
        for (int kind = 0; kind < 6; kind++) {
            CalledNumbers x = Checks.hallOf(letters.charAt(kind) + CARD);
            Checks.told("kind " + kind, x, x.player(0, 0), kind);
        }
        for (String letter : new String[] {"p", "d", "s"}) {
            after(letter, 0, 0, 3);
            after(letter, 9, 0, 2);
            after(letter, 3, 0, 1);
            after(letter, 27, 0, 1);
            after(letter, 7, 1, 0);
            after(letter, 56, 1, 0);
            after(letter, 63, 1, 0);
        }
        for (String letter : new String[] {"w", "l"}) {
            after(letter, 0, 0, 6);
            after(letter, 7, 0, 3);
            after(letter, 62, 0, 1);
            after(letter, 63, 1, 0);
        }
    }

    private static void hastyLacks() {
        after("h", 0, 0, 3);
        after("h", 1, 0, 2);
        after("h", 9, 0, 2);
        after("h", 3, 0, 1);
        after("h", 11, 0, 1);
        after("h", 27, 1, 0);
        after("h", 45, 1, 0);
        after("h", 7, 1, 0);
        after("h", 56, 1, 0);
    }

    private static void wonAndHas() {
        CalledNumbers x = Checks.hallOf("p" + CARD);
        x.rub(0, 0);
        x.rub(0, 1);
        x.rub(0, 2);
        Checks.told("has by hand, has", x, x.player(0, 3), 1);
        Checks.told("has by hand, not won", x, x.player(0, 2), 0);
        Checks.due("a call that is not on the card", x.call(12), 1);
        Checks.told("won behind it", x, x.player(0, 2), 1);
        x.rub(0, 0);
        Checks.told("rubbed out, won", x, x.player(0, 2), 1);
        Checks.told("rubbed out, has not", x, x.player(0, 3), 0);
        Checks.told("rubbed out, lacks", x, x.player(0, 4), 1);
    }

    private static void card() {
        CalledNumbers x = Checks.hallOf("p" + CARD + "w121110090807");
        for (int place = 0; place < 6; place++) {
            Checks.told("card(0, " + place + ")", x, x.card(0, place), place + 1);
            Checks.told("card(1, " + place + ")", x, x.card(1, place), 12 - place);
        }
        Checks.due("card(2, 0)", x.card(2, 0), CalledNumbers.BAD);
        Checks.due("card(-1, 0)", x.card(-1, 0), CalledNumbers.BAD);
        Checks.due("card(0, 6)", x.card(0, 6), CalledNumbers.BAD);
        Checks.due("card(0, -1)", x.card(0, -1), CalledNumbers.BAD);
        Checks.due("asked() behind refusals", x.asked(), 7);
    }

    private static void whole() {
        for (String letter : new String[] {"w", "l"}) {
            CalledNumbers x = Checks.hallOf(letter + CARD);
            Checks.due(letter + ", mark(0, 1)", x.mark(0, 1), 6);
            x.rub(0, 4);
            x.rub(0, 1);
            Checks.due(letter + ", mark(0, 1), two", x.mark(0, 1), 4);
        }
    }

    private static void deaf() {
        for (String letter : new String[] {"d", "s"}) {
            CalledNumbers x = Checks.hallOf(letter + CARD);
            int[] more = {2, 1, 0, 2, 1, 0, 2, 1, 0, 2, 1, 0, 2};
            for (int call = 0; call < 12; call++) {
                Checks.due(letter + ", mark(0, 2) at " + call, x.mark(0, 2), more[call]);
                x.call(call + 1);
            }
            Checks.due(letter + ", mark(0, 2) at 12", x.mark(0, 2), more[12]);
        }
    }

    private static void hasty() {
        CalledNumbers x = Checks.hallOf("h" + CARD);
        Checks.due("h, none", x.mark(0, 3), 0);
        x.rub(0, 0);
        x.rub(0, 3);
        Checks.due("h, one each", x.mark(0, 3), 0);
        x.rub(0, 5);
        Checks.due("h, two below", x.mark(0, 3), 1);
        x.rub(0, 1);
        Checks.due("h, two each", x.mark(0, 3), 2);
        x.rub(0, 2);
        Checks.due("h, three above", x.mark(0, 3), 2);
    }

    private static void late() {
        CalledNumbers x = Checks.hallOf("l" + CARD);
        Checks.due("l, none", x.mark(0, 4), 0);
        x.rub(0, 0);
        Checks.due("l, by hand alone", x.mark(0, 4), 0);
        x.call(9);
        Checks.due("l, behind 9", x.mark(0, 4), 9);
        x.call(2);
        x.rub(0, 0);
        Checks.due("l, behind 2", x.mark(0, 4), 2);
        x.undo(2);
        Checks.due("l, undone", x.mark(0, 4), 9);
        x.undo(0);
        Checks.due("l, all undone", x.mark(0, 4), 0);
    }

    private static void sly() {
        String[] cards = {"010203040506", "020406081012", "120111030507", "010312051108"};
        int[] pairs = {5, 0, 2, 2};
        for (int k = 0; k < cards.length; k++) {
            CalledNumbers x = Checks.hallOf("s" + cards[k]);
            Checks.due("s" + cards[k], x.mark(0, 5), pairs[k]);
        }
    }

    private static void unlike() {
        // For each KIND the KINDS that it IS of.
        int[] is = {0, 2, 4, 8, 2 | 16, 4 | 32};
        String letters = "pwdhls";
        for (int own = 0; own < 6; own++) {
            CalledNumbers x = Checks.hallOf(letters.charAt(own) + CARD);
            for (int kind = 1; kind < 6; kind++) {
                String what = letters.charAt(own) + ", mark(0, " + kind + ")";
                if ((is[own] >> kind & 1) == 1) {
                    Checks.holds(what, x.mark(0, kind) >= 0);
                } else {
                    Checks.refused(what, x, x.mark(0, kind), UNLIKE);
                }
            }
            for (int kind : new int[] {0, -1, 6, Integer.MIN_VALUE, Integer.MAX_VALUE}) {
                Checks.due("mark(0, " + kind + ")", x.mark(0, kind), CalledNumbers.BAD);
            }
            Checks.due("mark(1, 1)", x.mark(1, 1), CalledNumbers.BAD);
            Checks.due("mark(-1, 1)", x.mark(-1, 1), CalledNumbers.BAD);
        }
    }

    private static void refused() {
        CalledNumbers none = new CalledNumbers();
        Checks.due("no players, player", none.player(0, 0), CalledNumbers.BAD);
        Checks.due("no players, card", none.card(0, 0), CalledNumbers.BAD);
        Checks.due("no players, mark", none.mark(0, 1), CalledNumbers.BAD);
        CalledNumbers x = Checks.hallOf("p" + CARD);
        for (int odd : ODD) {
            Checks.due("player(" + odd + ", 0)", x.player(odd, 0), CalledNumbers.BAD);
        }
        for (int what : new int[] {-1, 5, Integer.MIN_VALUE, Integer.MAX_VALUE}) {
            Checks.due("player(0, " + what + ")", x.player(0, what), CalledNumbers.BAD);
        }
    }
}
