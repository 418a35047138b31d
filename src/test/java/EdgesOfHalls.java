/** Promises 8 to 14, sentence by sentence. */
final class EdgesOfHalls {
    private static final int NOTHING = 1, BEYOND = 2, UNLIKE = 3, SIZE = 5;
    private static final int[] NO_TEXTS = Checks.outside(0, 3);
    private static final String CARD = "010203040506";
    private static final String KINDS = "pwdhls";

    private EdgesOfHalls() {
    }

    static void all() {
        text();
        put();
        fault();
        hall();
        hallRefused();
        playerKindAndMarks();
        playerWonAndHas();
        playerLacks();
        playerRefused();
        card();
        markWhole();
        markDeaf();
        markHasty();
        markLate();
        markSly();
        markRefused();
    }

    private static void text() {
        Doc.says(8, "A TEXT is there with n blanks: n.");
        for (int t = 0; t <= 3; t++) {
            for (int n : new int[] {0, 1, 59, 60}) {
                CalledNumbers x = new CalledNumbers();
                int there = t;
                Checks.due("text(" + t + ", " + n + ")", x.text(t, n), n);
                for (int i = 0; i < n; i++) {
                    Checks.due("byte " + i, x.put(t, i, 32), 1032);
                }
                Checks.finds("byte " + n, x, BEYOND, () -> x.put(there, n, 32));
                Checks.due("one text is there", x.count(10), 1);
            }
        }
        CalledNumbers x = new CalledNumbers();
        Checks.write(x, 1, "abc");
        Checks.due("text(1, 1), shorter", x.text(1, 1), 1);
        Checks.due("text(1, 3), longer", x.text(1, 3), 3);
        for (int i = 0; i < 3; i++) {
            Checks.due("byte " + i + ", anew", x.put(1, i, 'd'), 1032);
        }
        Doc.says(8, "BAD: also n above 60");
        for (int n : Checks.above(60)) {
            Checks.bad("text(1, " + n + ")", x, () -> x.text(1, n));
        }
        for (int t : NO_TEXTS) {
            Checks.bad("text(" + t + ", 0)", x, () -> x.text(t, 0));
            Checks.bad("text(" + t + ", 61)", x, () -> x.text(t, 61));
            Checks.bad("text(" + t + ", -1)", x, () -> x.text(t, -1));
        }
        Doc.says(8, "SIZE: below 0.");
        for (int n : Checks.below(0)) {
            Checks.finds("text(1, " + n + "), there", x, SIZE, () -> x.text(1, n));
            Checks.finds("text(2, " + n + "), missing", x, SIZE, () -> x.text(2, n));
        }
    }

    private static void put() {
        Doc.says(9, "Byte i of a TEXT is v, cut to a byte: what it was, and 1000 more.");
        CalledNumbers x = new CalledNumbers();
        x.text(3, 60);
        int[] ints = {0, 127, 128, 255, 256, -1, -128, -129, 65535 + 66, Integer.MIN_VALUE, Integer.MAX_VALUE};
        for (int i : new int[] {0, 59}) {
            int was = 32;
            for (int v : ints) {
                Checks.due("put(3, " + i + ", " + v + ")", x.put(3, i, v), was + 1000);
                was = (byte) v;
            }
            Checks.due("put(3, " + i + ", 1)", x.put(3, i, 1), 999);
        }
        Checks.due("its neighbour", x.put(3, 1, 2), 1032);
        Checks.due("its neighbour", x.put(3, 58, 2), 1032);
        Doc.says(9, "BAD");
        for (int t : NO_TEXTS) {
            Checks.bad("put(" + t + ", 0, 65)", x, () -> x.put(t, 0, 65));
            Checks.bad("put(" + t + ", -1, 65)", x, () -> x.put(t, -1, 65));
        }
        Doc.says(9, "NOTHING");
        Checks.finds("put(0, 0, 65)", x, NOTHING, () -> x.put(0, 0, 65));
        Checks.finds("put(0, -1, 65)", x, NOTHING, () -> x.put(0, -1, 65));
        Checks.finds("put(0, 60, 65)", x, NOTHING, () -> x.put(0, 60, 65));
        Doc.says(9, "BEYOND");
        for (int i : Checks.outside(0, 59)) {
            Checks.finds("put(3, " + i + ", 65)", x, BEYOND, () -> x.put(3, i, 65));
        }
        x.text(3, 0);
        Checks.finds("put(3, 0, 65), empty", x, BEYOND, () -> x.put(3, 0, 65));
    }

    private static void fault() {
        CalledNumbers x = new CalledNumbers();
        Checks.write(x, 0, "p" + CARD + " ?");
        Checks.write(x, 3, "p" + CARD);
        Doc.says(10, "A FAULT of a TEXT");
        Checks.stays("fault(0)", x, 14, () -> x.fault(0));
        Checks.due("put of a letter", x.put(0, 14, 'w'), 1063);
        Checks.stays("fault(0), its end comes too early", x, 15, () -> x.fault(0));
        Doc.says(10, "NONE: there is none.");
        Checks.stays("fault(3)", x, CalledNumbers.NONE, () -> x.fault(3));
        Doc.says(10, "BAD");
        for (int t : NO_TEXTS) {
            Checks.bad("fault(" + t + ")", x, () -> x.fault(t));
        }
        Doc.says(10, "NOTHING");
        Checks.finds("fault(1)", x, NOTHING, () -> x.fault(1));
        Checks.finds("fault(2)", x, NOTHING, () -> x.fault(2));
    }

    private static void hall() {
        Doc.says(11, "A HALL by a TEXT");
        for (int t = 0; t <= 3; t++) {
            CalledNumbers x = new CalledNumbers();
            Checks.write(x, t, "  h" + CARD + "l121110090807 ");
            Checks.due("hall(" + t + ")", x.hall(t), 2);
            Checks.told("kind of 0", x, x.player(0, 0), 3);
            Checks.told("kind of 1", x, x.player(1, 0), 4);
            Checks.told("last of the card of 1", x, x.card(1, 5), 7);
            x.text(t, 0);
            Checks.told("the text is other", x, x.player(1, 0), 4);
        }
        Doc.says(11, "(anew: CALL 0, nothing MARKED, no DEEDS; kept HALLS go)");
        CalledNumbers x = Checks.hallOf("p" + CARD + "w" + CARD + "p" + CARD + "p" + CARD);
        for (int number = 1; number <= 3; number++) {
            x.call(number);
        }
        x.rub(1, 5);
        for (int k = 0; k <= 2; k++) {
            x.keep(k);
        }
        Checks.write(x, 0, "p" + CARD + "p" + CARD);
        Checks.due("hall(0)", x.hall(0), 2);
        int[] counts = {2, 0, 0, Checks.BAG, 0, 0, 0, 0, 0, 0, 2, 0};
        for (int what = 0; what <= 11; what++) {
            Checks.due("count(" + what + "), anew", x.count(what), counts[what]);
        }
        for (int k = 0; k <= 2; k++) {
            int gone = k;
            Checks.finds("on(" + k + "), anew", x, NOTHING, () -> x.on(gone));
        }
        Checks.told("marks of 1, anew", x, x.player(1, 1), 0);
        Checks.bad("undo(1), anew", x, () -> x.undo(1));
        for (int number = 1; number <= 3; number++) {
            Checks.due("those who are gone don't win", x.call(number), number < 3 ? 0 : 3);
        }
        Checks.due("nor have they won", x.count(5), 3);
        Checks.due("hall(0), the same text once more", x.hall(0), 2);
        Checks.due("its calls", x.count(1), 0);
        Checks.write(x, 0, "s" + CARD);
        x.hall(0);
        Checks.write(x, 0, "s010207080912");
        x.hall(0);
        Checks.due("what the old card had is gone", x.mark(0, 5), 4);
        Doc.says(11, "how many PLAYERS.");
        for (int n = 1; n <= 4; n++) {
            Checks.write(x, 1, ("p" + CARD).repeat(n));
            Checks.due("hall of " + n, x.hall(1), n);
            Checks.due("count(0)", x.count(0), n);
        }
    }

    private static void hallRefused() {
        CalledNumbers x = Checks.hallOf("p" + CARD);
        x.call(2);
        x.keep(1);
        Doc.says(11, "BAD");
        for (int t : NO_TEXTS) {
            Checks.bad("hall(" + t + ")", x, () -> x.hall(t));
        }
        Doc.says(11, "NOTHING");
        Checks.finds("hall(0)", x, NOTHING, () -> x.hall(0));
        Doc.says(11, "STATE: a FAULT.");
        String[] faulty = {
            "", "   ", "x", "w1211100908", "w12111009080", "w121110090812", "w121110090800",
            "w121110090807 ?", ("w121110090807").repeat(4) + "w"
        };
        for (String text : faulty) {
            Checks.write(x, 0, text);
            Checks.stays("hall by '" + text + "'", x, CalledNumbers.STATE, () -> x.hall(0));
            Checks.told("the old card", x, x.card(0, 0), 1);
            Checks.told("the old kind", x, x.player(0, 0), 0);
        }
        Checks.due("on(1), kept still", x.on(1), 1);
        Doc.says(11, "(STATE behind NOTHING.)");
        CalledNumbers none = new CalledNumbers();
        Checks.finds("hall(0) without players", none, NOTHING, () -> none.hall(0));
        none.text(0, 0);
        Checks.stays("hall(0) of none", none, CalledNumbers.STATE, () -> none.hall(0));
    }

    /** A hall of one with these places marked by hand. */
    static CalledNumbers marked(char kind, int places) {
        CalledNumbers x = Checks.hallOf(kind + CARD);
        for (int place = 0; place < 6; place++) {
            if ((places >> place & 1) == 1) {
                x.rub(0, place);
            }
        }
        return x;
    }

    private static void playerKindAndMarks() {
        Doc.says(12, "Of a PLAYER: 0 the KIND");
        for (int kind = 0; kind < 6; kind++) {
            CalledNumbers x = Checks.hallOf("p" + CARD + "p" + CARD + "p" + CARD + KINDS.charAt(kind) + CARD);
            Checks.told("the fourth is " + kind, x, x.player(3, 0), kind);
            Checks.told("the first is 0", x, x.player(0, 0), 0);
        }
        Doc.says(12, "1 PLACES that are MARKED (bits)");
        for (int places = 0; places < 64; places++) {
            CalledNumbers x = marked('p', places);
            Checks.told("by hand", x, x.player(0, 1), places);
        }
        CalledNumbers x = Checks.hallOf("p060504030201");
        Checks.due("call(1)", x.call(1), 0);
        Checks.told("by a call", x, x.player(0, 1), 32);
        x.call(6);
        Checks.told("by a call", x, x.player(0, 1), 33);
    }

    private static void playerWonAndHas() {
        Doc.says(12, "2 whether it has WON (1, 0)");
        CalledNumbers x = Checks.hallOf("p" + CARD + "w" + CARD);
        x.rub(0, 0);
        x.rub(0, 1);
        x.rub(0, 2);
        Checks.told("it has it by hand alone", x, x.player(0, 2), 0);
        x.call(12);
        Checks.told("behind a call", x, x.player(0, 2), 1);
        Checks.told("another one", x, x.player(1, 2), 0);
        x.rub(0, 1);
        Checks.told("for good", x, x.player(0, 2), 1);
        Doc.says(12, "3 whether it HAS it now (1, 0)");
        Checks.told("rubbed out", x, x.player(0, 3), 0);
        x.rub(0, 1);
        Checks.told("marked", x, x.player(0, 3), 1);
    }

    private static void playerLacks() {
        Doc.says(12, "4 the least number of MARKS more by which it would have it");
        for (char kind : KINDS.toCharArray()) {
            for (int places = 0; places < 64; places++) {
                CalledNumbers x = marked(kind, places);
                Checks.told(kind + " with " + places, x, x.player(0, 4), EdgesOfTerms.lacks(kind, places));
            }
        }
        Doc.says(12, "told by asked(): 1.");
        CalledNumbers x = marked('h', 9);
        int[] told = {3, 9, 0, 0, 2};
        for (int what = 0; what <= 4; what++) {
            Checks.told("player(0, " + what + ")", x, x.player(0, what), told[what]);
        }
    }

    private static void playerRefused() {
        Doc.says(12, "BAD");
        CalledNumbers none = new CalledNumbers();
        Checks.bad("player(0, 0) of none", none, () -> none.player(0, 0));
        for (int n = 1; n <= 4; n++) {
            CalledNumbers x = Checks.hallOf(("h" + CARD).repeat(n));
            x.card(0, 4);
            for (int i : Checks.outside(0, n - 1)) {
                Checks.bad("player(" + i + ", 0) of " + n, x, () -> x.player(i, 0));
            }
            for (int what : Checks.outside(0, 4)) {
                Checks.bad("player(0, " + what + ")", x, () -> x.player(0, what));
            }
        }
    }

    private static void card() {
        Doc.says(13, "The NUMBER at a PLACE (0 .. 5) of a CARD, told by asked(): 1.");
        CalledNumbers x = Checks.hallOf("p" + CARD + "w120111021003");
        int[] second = {12, 1, 11, 2, 10, 3};
        for (int place = 0; place <= 5; place++) {
            Checks.told("card(0, " + place + ")", x, x.card(0, place), place + 1);
            Checks.told("card(1, " + place + ")", x, x.card(1, place), second[place]);
        }
        Doc.says(13, "BAD");
        for (int place : Checks.outside(0, 5)) {
            Checks.bad("card(0, " + place + ")", x, () -> x.card(0, place));
        }
        for (int i : Checks.outside(0, 1)) {
            Checks.bad("card(" + i + ", 0)", x, () -> x.card(i, 0));
        }
        CalledNumbers none = new CalledNumbers();
        Checks.bad("card(0, 0) of none", none, () -> none.card(0, 0));
    }

    private static void markWhole() {
        Doc.says(14, "What a PLAYER that IS of a KIND tells: a WHOLE one (LATE, too) how many PLACES are not MARKED");
        for (char kind : new char[] {'w', 'l'}) {
            for (int places : new int[] {0, 1, 32, 7, 62, 63}) {
                CalledNumbers x = marked(kind, places);
                int want = 6 - Integer.bitCount(places);
                Checks.stays(kind + ", mark(0, 1)", x, want, () -> x.mark(0, 1));
            }
        }
    }

    private static void markDeaf() {
        Doc.says(14, "a DEAF one (SLY, too) in how many CALLS more it HEARS nothing (0: in the next one)");
        for (char kind : new char[] {'d', 's'}) {
            CalledNumbers x = Checks.hallOf(kind + CARD);
            for (int call = 0; call <= 12; call++) {
                int want = new int[] {2, 1, 0}[call % 3];
                Checks.stays(kind + ", mark(0, 2) at " + call, x, want, () -> x.mark(0, 2));
                x.rub(0, 0);
                Checks.due(kind + ", a rub is no call", x.mark(0, 2), want);
                if (call < 12) {
                    x.call(call + 1);
                }
            }
        }
    }

    private static void markHasty() {
        Doc.says(14, "a HASTY one how many LINES have two MARKS or more");
        for (int places = 0; places < 64; places++) {
            CalledNumbers x = marked('h', places);
            int above = places % 8 == 3 || places % 8 > 4 ? 1 : 0;
            int below = places / 8 == 3 || places / 8 > 4 ? 1 : 0;
            Checks.stays("mark(0, 3) with " + places, x, above + below, () -> x.mark(0, 3));
        }
    }

    private static void markLate() {
        Doc.says(14, "a LATE one the NUMBER it HEARS at the next CALL (0: nothing)");
        CalledNumbers x = Checks.hallOf("l" + CARD);
        Checks.stays("mark(0, 4) at first", x, 0, () -> x.mark(0, 4));
        x.rub(0, 3);
        Checks.due("mark(0, 4) behind a rub", x.mark(0, 4), 0);
        for (int number : new int[] {12, 1, 9}) {
            x.call(number);
            x.rub(0, 2);
            Checks.stays("mark(0, 4) behind " + number, x, number, () -> x.mark(0, 4));
        }
        x.undo(3);
        Checks.due("mark(0, 4), undone to 12", x.mark(0, 4), 12);
        x.undo(1);
        Checks.due("mark(0, 4), all calls undone", x.mark(0, 4), 0);
    }

    private static void markSly() {
        Doc.says(14, "a SLY one how many NUMBERS of its CARD have the next NUMBER on it, too.");
        String[] cards = {"010203040506", "020406081012", "120103050709", "010305070911", "121110090801"};
        int[] pairs = {5, 0, 1, 0, 5};
        for (int k = 0; k < cards.length; k++) {
            CalledNumbers x = Checks.hallOf("s" + cards[k]);
            int want = pairs[k];
            Checks.stays("s" + cards[k] + ", mark(0, 5)", x, want, () -> x.mark(0, 5));
        }
    }

    private static void markRefused() {
        Doc.says(14, "BAD: also KIND 0");
        for (char kind : KINDS.toCharArray()) {
            CalledNumbers x = Checks.hallOf(kind + CARD);
            for (int none : Checks.outside(1, 5)) {
                Checks.bad(kind + ", mark(0, " + none + ")", x, () -> x.mark(0, none));
            }
            for (int i : Checks.outside(0, 0)) {
                Checks.bad(kind + ", mark(" + i + ", 1)", x, () -> x.mark(i, 1));
            }
        }
        CalledNumbers none = new CalledNumbers();
        Checks.bad("mark(0, 1) of none", none, () -> none.mark(0, 1));
        Doc.says(14, "UNLIKE.");
        // For each KIND, as it comes, the KINDS that it is not of.
        int[][] unlike = {{1, 2, 3, 4, 5}, {2, 3, 4, 5}, {1, 3, 4, 5}, {1, 2, 4, 5}, {2, 3, 5}, {1, 3, 4}};
        for (int own = 0; own < 6; own++) {
            CalledNumbers x = Checks.hallOf(KINDS.charAt(own) + CARD);
            for (int kind : unlike[own]) {
                Checks.finds(KINDS.charAt(own) + ", mark(0, " + kind + ")", x, UNLIKE, () -> x.mark(0, kind));
            }
        }
    }
}
