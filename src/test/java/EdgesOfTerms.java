import java.util.function.IntSupplier;

/** The section 'Terms', sentence by sentence. */
final class EdgesOfTerms {
    private static final int NOTHING = 1, BEYOND = 2, UNLIKE = 3, NOUGHT = 4, SIZE = 5;
    private static final int T = Doc.TERMS;
    private static final String CARD = "010203040506";
    private static final String KINDS = "pwdhls";

    private EdgesOfTerms() {
    }

    static void all() {
        orderOfRefusals();
        refusedChangesNothing();
        findings();
        toldBySharesAndBits();
        rowsAndTexts();
        hallsByTexts();
        cardsByTexts();
        faultsAtSigns();
        faultsAtNumbers();
        faultsAtTheEnd();
        kinds();
        hears();
        hearsAtCalls();
        marksAndHas();
        won();
        deeds();
        lots();
        asides();
    }

    /** Whether one with these places marked has it, by the words of the document. */
    static boolean has(char kind, int places) {
        int above = Integer.bitCount(places % 8);
        int below = Integer.bitCount(places / 8);
        if (kind == 'w' || kind == 'l') {
            return above == 3 && below == 3;
        }
        boolean line = above == 3 || below == 3;
        return kind == 'h' ? line || above >= 2 && below >= 2 : line;
    }

    /** The least number of places more, by trying all sets. */
    static int lacks(char kind, int places) {
        int least = 7;
        for (int more = 0; more < 64; more++) {
            if ((more & places) == places && has(kind, more)) {
                least = Math.min(least, Integer.bitCount(more) - Integer.bitCount(places));
            }
        }
        return least;
    }

    private static void orderOfRefusals() {
        Doc.says(T, "Refused is, the first of these that fits, in this order: "
            + "BAD -1 (a number that is none, or not as told)");
        Checks.due("BAD", CalledNumbers.BAD, -1);
        CalledNumbers none = new CalledNumbers();
        Checks.bad("BAD ahead of STATE, call(0)", none, () -> none.call(0));
        Checks.bad("BAD ahead of STATE, keep(3)", none, () -> none.keep(3));
        Checks.bad("BAD ahead of STATE, most(5, 0)", none, () -> none.most(5, 0));
        Checks.bad("BAD ahead of STATE, lots(0, 1)", none, () -> none.lots(0, 1));
        Checks.bad("BAD ahead of FINDING, row(6, -1)", none, () -> none.row(6, -1));
        Checks.bad("BAD ahead of FINDING, text(4, -1)", none, () -> none.text(4, -1));
        CalledNumbers x = Checks.hallOf("p" + CARD);
        Checks.bad("BAD ahead of FINDING, kinds(1, 0)", x, () -> x.kinds(1, 0));
        Checks.bad("BAD ahead of FINDING, next(1, 0)", x, () -> x.next(1, 0));
        Checks.bad("BAD ahead of FINDING, mark(1, 1)", x, () -> x.mark(1, 1));
        x.lots(20, 1);
        x.lots(20, 1);
        Doc.says(T, "FULL -2");
        Checks.due("FULL", CalledNumbers.FULL, -2);
        Checks.bad("BAD ahead of FULL, rub(0, 6)", x, () -> x.rub(0, 6));
        Checks.stays("FULL, rub(0, 5)", x, CalledNumbers.FULL, () -> x.rub(0, 5));
        Doc.says(T, "STATE -4 (not now)");
        Checks.due("STATE", CalledNumbers.STATE, -4);
        Checks.stays("STATE, safe()", none, CalledNumbers.STATE, none::safe);
        Doc.says(T, "SPENT -6 (more than told)");
        Checks.due("SPENT", CalledNumbers.SPENT, -6);
        Doc.says(T, "FINDING -3 (finding() tells which)");
        Checks.due("FINDING", CalledNumbers.FINDING, -3);
        Checks.due("at(0, 0)", none.at(0, 0), -3);
        Checks.due("finding()", none.finding(), NOTHING);
        Doc.says(T, "unless a call says so otherwise.");
        Checks.stays("STATE ahead of BAD, run(6)", none, CalledNumbers.STATE, () -> none.run(6));
        Checks.finds("FINDING ahead of STATE, hall(0)", none, NOTHING, () -> none.hall(0));
        while (x.count(3) != 0) {
            x.undo(20);
            x.lots(20, 3);
        }
        Checks.stays("STATE ahead of FULL, call(1)", x, CalledNumbers.STATE, () -> x.call(1));
        Doc.says(T, "NONE -9.");
        Checks.due("NONE", CalledNumbers.NONE, -9);
    }

    /** An object of which each thing that is told is other than at first. */
    private static CalledNumbers busy() {
        CalledNumbers x = Checks.hallOf("p" + CARD + "w" + CARD);
        x.call(1);
        x.keep(1);
        x.rub(1, 5);
        Checks.fill(x, 0, 77, 78, 79);
        x.row(1, 13);
        x.row(2, 0);
        x.mid(1, 2);
        x.mean(2);
        x.at(0, 2);
        x.at(0, 1);
        x.text(0, 5);
        return x;
    }

    private static void refusedAll(CalledNumbers x, int want, int finding, IntSupplier... calls) {
        for (int k = 0; k < calls.length; k++) {
            String what = "refusal " + want + ", " + finding + ", number " + k;
            if (finding == 0) {
                Checks.stays(what, x, want, calls[k]);
            } else {
                Checks.finds(what, x, finding, calls[k]);
            }
        }
    }

    private static void refusedChangesNothing() {
        Doc.says(T, "What is refused changes nothing but finding(), findings().");
        CalledNumbers x = busy();
        refusedAll(x, CalledNumbers.BAD, 0,
            () -> x.row(6, 1), () -> x.row(0, 41), () -> x.lay(6, 0, 1), () -> x.at(6, 0), () -> x.tear(6),
            () -> x.copy(6, 0, 0, 0, 1), () -> x.mean(6), () -> x.text(4, 0), () -> x.text(0, 61),
            () -> x.put(4, 0, 1), () -> x.fault(4), () -> x.hall(4), () -> x.player(2, 0), () -> x.card(0, 6),
            () -> x.mark(0, 0), () -> x.call(13), () -> x.rub(2, 0), () -> x.undo(9), () -> x.keep(3),
            () -> x.on(3), () -> x.hears(0, 0, 0, 0), () -> x.run(6), () -> x.fewest(2, 0), () -> x.fewest(0, 6),
            () -> x.most(5, 0), () -> x.most(0, 6), () -> x.which(0, 64), () -> x.kinds(0, 6));
        refusedAll(x, CalledNumbers.BAD, 0,
            () -> x.next(0, 6), () -> x.duel(0, 2, 0), () -> x.odds(0, 4), () -> x.mid(0, 4),
            () -> x.lots(21, 1), () -> x.count(12), () -> x.findings(6));
        refusedAll(x, CalledNumbers.STATE, 0, () -> x.hall(0), () -> x.call(1));
        CalledNumbers y = busy();
        refusedAll(y, CalledNumbers.FINDING, NOTHING,
            () -> y.lay(5, 0, 1), () -> y.at(5, 0), () -> y.tear(5), () -> y.copy(5, 0, 0, 0, 1),
            () -> y.copy(0, 0, 5, 0, 1), () -> y.mean(5), () -> y.put(1, 0, 1), () -> y.fault(1),
            () -> y.hall(1), () -> y.on(0), () -> y.run(5), () -> y.kinds(0, 5), () -> y.next(0, 5));
        refusedAll(y, CalledNumbers.FINDING, BEYOND,
            () -> y.lay(0, 3, 1), () -> y.at(0, 3), () -> y.copy(0, 0, 0, 1, 3), () -> y.put(0, 5, 1));
        refusedAll(y, CalledNumbers.FINDING, UNLIKE, () -> y.mark(0, 1), () -> y.run(0));
        refusedAll(y, CalledNumbers.FINDING, NOUGHT, () -> y.mean(2));
        refusedAll(y, CalledNumbers.FINDING, SIZE,
            () -> y.row(0, -1), () -> y.copy(0, 0, 0, 0, -1), () -> y.text(0, -1), () -> y.run(1),
            () -> y.kinds(0, 1), () -> y.next(0, 1));
        CalledNumbers z = busy();
        z.lots(20, 5);
        z.lots(18, 5);
        refusedAll(z, CalledNumbers.FULL, 0, () -> z.rub(0, 0), () -> z.lots(1, 1));
        CalledNumbers none = new CalledNumbers();
        none.row(0, 1);
        none.text(0, 0);
        refusedAll(none, CalledNumbers.STATE, 0, () -> none.hall(0), () -> none.call(1), () -> none.keep(0),
            () -> none.run(0), none::safe, () -> none.most(0, 0), () -> none.lots(1, 1));
    }

    private static void findings() {
        CalledNumbers x = Checks.hallOf("p" + CARD);
        Doc.says(T, "FINDINGS: 1 NOTHING (a ROW, a TEXT, a kept HALL that is missing)");
        Checks.finds("a row", x, 1, () -> x.at(0, 0));
        Checks.finds("a text", x, 1, () -> x.fault(0));
        Checks.finds("a kept hall", x, 1, () -> x.on(0));
        Doc.says(T, "2 BEYOND (a place of a ROW, a TEXT that there is not)");
        x.row(0, 2);
        Checks.finds("a place of a row", x, 2, () -> x.at(0, 2));
        Checks.finds("a place of a text", x, 2, () -> x.put(3, 13, 0));
        Doc.says(T, "3 UNLIKE (a PLAYER of another KIND; a number that is none)");
        Checks.finds("a player of another kind", x, 3, () -> x.mark(0, 3));
        Checks.finds("a number that is none", x, 3, () -> x.run(0));
        Doc.says(T, "4 NOUGHT (shared among none; nothing fits)");
        x.row(1, 0);
        Checks.finds("shared among none", x, 4, () -> x.mean(1));
        Doc.says(T, "5 SIZE (fewer than none; too many, not as many as due).");
        Checks.finds("fewer than none", x, 5, () -> x.row(0, -1));
        x.row(1, 13);
        Checks.finds("too many", x, 5, () -> x.run(1));
        x.row(1, 1);
        Checks.finds("not as many as due", x, 5, () -> x.kinds(0, 1));
    }

    private static void toldBySharesAndBits() {
        Doc.says(T, "Chances, means are told by upper(), lower(), in lowest terms, the lower number above 0 (0 by 1).");
        CalledNumbers x = Checks.hallOf("p" + CARD + "l" + CARD);
        Checks.share("12 by 1320", x, x.odds(0, 3), 1, 110);
        Checks.share("6 by 12", x, x.mid(0, 1), 1, 2);
        Checks.share("132 by 132", x, x.mid(0, 2), 1, 1);
        Checks.share("0 by 1320", x, x.odds(1, 3), 0, 1);
        Checks.share("0 by 12", x, x.mid(1, 1), 0, 1);
        Checks.share("0 by 1", x, x.mid(1, 0), 0, 1);
        Doc.says(T, "Sets (of PLAYERS, of KINDS, of NUMBERS: bits 1 .. 12, of PLACES of a CARD: bits 0 .. 5) "
            + "are told by bits.");
        CalledNumbers y = Checks.hallOf(("s" + CARD).repeat(4));
        Checks.due("all numbers", y.count(3), 0x1FFE);
        Checks.due("a number", y.hears(0, 11, 0, 0), 0x1800);
        y.row(0, 0);
        Checks.due("all kinds", y.kinds(0, 0), 63);
        Checks.due("the first place", y.rub(3, 0), 1);
        Checks.due("and the last one", y.rub(3, 5), 33);
        y.call(1);
        Checks.due("all players", y.call(3), 15);
    }

    private static void rowsAndTexts() {
        Doc.says(T, "ROWS 0 .. 5 are rows of 0 to 40 ints");
        CalledNumbers x = new CalledNumbers();
        for (int r = 0; r <= 5; r++) {
            Checks.due("row(" + r + ", 40)", x.row(r, 40), 40);
            Checks.told("lay(" + r + ", 39, r)", x, x.lay(r, 39, r), 0);
        }
        for (int r = 0; r <= 5; r++) {
            Checks.told("at(" + r + ", 39)", x, x.at(r, 39), r);
            Checks.due("row(" + r + ", 0)", x.row(r, 0), 0);
        }
        Checks.bad("row(6, 0)", x, () -> x.row(6, 0));
        Checks.bad("row(-1, 0)", x, () -> x.row(-1, 0));
        Checks.bad("row(0, 41)", x, () -> x.row(0, 41));
        Doc.says(T, "TEXTS 0 .. 3 rows of 0 to 60 bytes");
        for (int t = 0; t <= 3; t++) {
            Checks.due("text(" + t + ", 60)", x.text(t, 60), 60);
            Checks.due("put(" + t + ", 59, t)", x.put(t, 59, t), 1032);
        }
        for (int t = 0; t <= 3; t++) {
            Checks.due("put(" + t + ", 59, 9)", x.put(t, 59, 9), 1000 + t);
            Checks.due("text(" + t + ", 0)", x.text(t, 0), 0);
        }
        Checks.bad("text(4, 0)", x, () -> x.text(4, 0));
        Checks.bad("text(-1, 0)", x, () -> x.text(-1, 0));
        Checks.bad("text(0, 61)", x, () -> x.text(0, 61));
        Doc.says(T, "or missing (at first).");
        CalledNumbers y = new CalledNumbers();
        Checks.due("rows", y.count(9), 0);
        Checks.due("texts", y.count(10), 0);
        Checks.finds("at(5, 0)", y, NOTHING, () -> y.at(5, 0));
        Checks.finds("put(3, 0, 0)", y, NOTHING, () -> y.put(3, 0, 0));
    }

    private static void faultOf(String text, int want) {
        CalledNumbers x = new CalledNumbers();
        Checks.write(x, 2, text);
        Checks.due("fault of '" + text + "'", x.fault(2), want);
        Checks.due("hall by '" + text + "'", x.hall(2) > 0 ? 1 : 0, want == CalledNumbers.NONE ? 1 : 0);
    }

    private static void fine(String text) {
        faultOf(text, CalledNumbers.NONE);
    }

    private static void hallsByTexts() {
        String one = "p" + CARD;
        Doc.says(T, "A HALL (without PLAYERS at first) is a TEXT:");
        CalledNumbers x = new CalledNumbers();
        Checks.due("players at first", x.count(0), 0);
        Checks.due("the bag at first", x.count(3), 0);
        Checks.stays("call(1) at first", x, CalledNumbers.STATE, () -> x.call(1));
        fine(one);
        Doc.says(T, "blanks (32) ahead, between, behind as many as wanted, none within items:");
        fine(" " + one);
        fine(one + " ");
        fine(" ".repeat(47) + one);
        fine(one + " ".repeat(47));
        fine(one + " " + one);
        fine(one + " ".repeat(34) + one);
        fine(one + one);
        fine("  " + one + "  " + one + "  " + one + "  " + one);
        faultOf("p " + CARD, 1);
        faultOf("p0 10203040506", 2);
        faultOf("p01 0203040506", 3);
        faultOf("p0102030405 06", 11);
        faultOf("p01020304050 6", 12);
        for (int no : new int[] {0, 9, 10, 31, 33, 160}) {
            faultOf((char) no + one, 0);
            faultOf(one + (char) no + one, 13);
            faultOf(one + (char) no, 13);
        }
        Doc.says(T, "1 to 4 PLAYERS (0, 1, .. as they come)");
        faultOf("", 0);
        for (int n = 1; n <= 4; n++) {
            fine(one.repeat(n));
        }
        faultOf(one.repeat(4) + one.substring(0, 8), 52);
        CalledNumbers y = Checks.hallOf("w" + CARD + " d" + CARD + " h" + CARD + " l" + CARD);
        for (int i = 0; i < 4; i++) {
            Checks.told("player " + i, y, y.player(i, 0), i + 1);
        }
    }

    private static void cardsByTexts() {
        Doc.says(T, "each a letter, then the CARD: six NUMBERS (1 .. 12, unlike; two figures each, 01 .. 12)");
        fine("p010203040506");
        fine("p121110090807");
        faultOf("p000203040506", 1);
        faultOf("p130203040506", 1);
        faultOf("p010203040513", 11);
        faultOf("p010203040500", 11);
        faultOf("p990203040506", 1);
        faultOf("p010203040505", 11);
        faultOf("p1203040506", 11);
        faultOf("p01020304050607", 13);
        faultOf("010203040506", 0);
        faultOf("pw010203040506", 1);
        // The same NUMBERS on another CARD are fine.
        fine("p010203040506p010203040506");
        Doc.says(T, "PLACES 0 to 5: the upper LINE 0, 1, 2, the lower one 3, 4, 5.");
        CalledNumbers x = Checks.hallOf("p121110030201");
        int[] card = {12, 11, 10, 3, 2, 1};
        for (int place = 0; place < 6; place++) {
            Checks.told("card(0, " + place + ")", x, x.card(0, place), card[place]);
        }
        x.call(10);
        x.call(3);
        x.call(12);
        Checks.due("the upper line", x.call(11), 1);
        x.undo(2);
        x.call(1);
        Checks.due("the lower line", x.call(2), 1);
    }

    private static void faultsAtSigns() {
        String one = "p" + CARD;
        Doc.says(T, "A FAULT is the first place at which it can't go on so");
        faultOf("x010203040501", 0);
        faultOf("p01010303x", 3);
        faultOf("p0102x3040501", 5);
        faultOf(one + "x" + one + "y", 13);
        Doc.says(T, "(a letter, a figure that is none such, a fifth PLAYER: its place;");
        for (char sign : new char[] {'P', 'W', 'q', 'o', 'v', 'x', 'c', 'e', 'g', 'i', 'k', 'm', 'r', 't', '0', 240}) {
            faultOf(sign + CARD, 0);
            faultOf("  " + one + "  " + sign, 17);
        }
        for (char sign : new char[] {'/', ':', ' ', 'p', 0, 176, 255}) {
            faultOf("p" + sign + "10203040506", 1);
            faultOf("p0" + sign + "0203040506", 2);
            faultOf("p01020304050" + sign, 12);
            faultOf("p0102030405" + sign + "6", 11);
        }
        faultOf("p9x", 2);
        faultOf("p2 ", 2);
        faultOf(one.repeat(4) + "p", 52);
        faultOf(one.repeat(4) + "       s", 59);
        faultOf(one.repeat(4) + " p010101", 53);
    }

    private static void faultsAtNumbers() {
        String one = "p" + CARD;
        Doc.says(T, "two figures that are no NUMBER, or one that is on the CARD already: the place of the first of both;");
        for (String figures : new String[] {"00", "13", "14", "19", "20", "21", "99"}) {
            for (int place = 0; place < 6; place++) {
                String card = CARD.substring(0, 2 * place) + figures + CARD.substring(2 * place + 2);
                faultOf("p" + card, 1 + 2 * place);
                faultOf(one + " p" + card, 15 + 2 * place);
            }
        }
        for (int place = 1; place < 6; place++) {
            for (int ahead = 0; ahead < place; ahead++) {
                String twice = CARD.substring(2 * ahead, 2 * ahead + 2);
                faultOf("p" + CARD.substring(0, 2 * place) + twice, 1 + 2 * place);
            }
        }
        faultOf("p12111009081212", 11);
    }

    private static void faultsAtTheEnd() {
        String one = "p" + CARD;
        Doc.says(T, "the TEXT's size, if its end comes too early, or there are blanks alone).");
        for (int size = 1; size < 13; size++) {
            faultOf(one.substring(0, size), size);
            faultOf(" " + one.substring(0, size), size + 1);
            faultOf(one + one.substring(0, size), 13 + size);
        }
        faultOf(one + one + one + " ".repeat(9) + one.substring(0, 12), 60);
        faultOf(one + one + one + " ".repeat(20) + "p", 60);
        fine(one + one + one + " ".repeat(8) + one);
        for (int size : new int[] {0, 1, 59, 60}) {
            faultOf(" ".repeat(size), size);
        }
        // What stood behind the end once is not read.
        CalledNumbers x = new CalledNumbers();
        Checks.write(x, 0, one);
        x.text(0, 13);
        Checks.due("blanks anew", x.fault(0), 13);
    }

    private static void kinds() {
        Doc.says(T, "KINDS of PLAYERS and letters: 0 PLAYER (p, 112), 1 WHOLE (w, 119; a PLAYER), "
            + "2 DEAF (d, 100; a PLAYER), 3 HASTY (h, 104; a PLAYER), 4 LATE (l, 108; a WHOLE one), "
            + "5 SLY (s, 115; a DEAF one).");
        int[] letters = {112, 119, 100, 104, 108, 115};
        for (int kind = 0; kind < 6; kind++) {
            CalledNumbers x = Checks.hallOf((char) letters[kind] + CARD);
            Checks.told("letter " + letters[kind], x, x.player(0, 0), kind);
            Checks.due("whole ones", x.count(7), kind == 1 || kind == 4 ? 1 : 0);
            Checks.due("deaf ones", x.count(8), kind == 2 || kind == 5 ? 1 : 0);
        }
    }

    private static int heard(char kind, int number, int ahead, int call) {
        if (kind == 'l') {
            return ahead == 0 ? 0 : 1 << ahead;
        }
        if ((kind == 'd' || kind == 's') && call % 3 == 2) {
            return 0;
        }
        return 1 << number | (kind == 's' ? 1 << (number == 12 ? 1 : number + 1) : 0);
    }

    private static void hearsAll(char kind) {
        for (int number = 1; number <= 12; number++) {
            CalledNumbers x = Checks.hallOf(kind + CARD);
            for (int ahead = 0; ahead <= 12; ahead++) {
                for (int call : new int[] {0, 1, 2, 3, 5, 97, 98, 99}) {
                    if (ahead != number) {
                        String what = kind + " hears " + number + " behind " + ahead + " at " + call;
                        Checks.due(what, x.hears(0, number, ahead, call), heard(kind, number, ahead, call));
                    }
                }
            }
        }
    }

    private static void hears() {
        Doc.says(T, "of a NUMBER a PLAYER HEARS that; a WHOLE one, a HASTY one as a PLAYER;");
        hearsAll('p');
        hearsAll('w');
        hearsAll('h');
        Doc.says(T, "a DEAF one likewise, but nothing at CALLS whose numbers 3 leaves 2 of;");
        hearsAll('d');
        Doc.says(T, "a LATE one the NUMBER of the CALL ahead (nothing, if there was none; whatever the CALL's number);");
        hearsAll('l');
        Doc.says(T, "a SLY one as a DEAF one, and the next NUMBER, too (behind 12 comes 1).");
        hearsAll('s');
    }

    /** Calls 1, 2, .. 12, or 12, 11, .. 1, and looks at the marks behind each call. */
    private static void hearsTruly(char kind, String numbers, boolean up) {
        CalledNumbers x = Checks.hallOf(kind + numbers);
        int marks = 0;
        int ahead = 0;
        for (int call = 0; call < 12; call++) {
            int number = up ? call + 1 : 12 - call;
            int heard = heard(kind, number, ahead, call);
            for (int place = 0; place < 6; place++) {
                int on = Integer.parseInt(numbers.substring(2 * place, 2 * place + 2));
                marks |= (heard >> on & 1) << place;
            }
            x.call(number);
            Checks.told(kind + numbers + ", marks behind call " + call, x, x.player(0, 1), marks);
            ahead = number;
        }
    }

    private static void hearsAtCalls() {
        Doc.says(T, "At a CALL (they are numbered from 0 on)");
        CalledNumbers x = Checks.hallOf("d" + CARD);
        for (int call = 0; call < 12; call++) {
            Checks.due("the next call", x.count(1), call);
            x.call(call + 1);
        }
        Checks.told("3 and 6 were called at 2 and 5", x, x.player(0, 1), 1 | 2 | 8 | 16);
        Doc.says(T, "What one HEARS is MARKED on its CARD, if it is there.");
        for (char kind : KINDS.toCharArray()) {
            for (String numbers : new String[] {CARD, "121110090807", "120111021003", "050403070801"}) {
                hearsTruly(kind, numbers, true);
                hearsTruly(kind, numbers, false);
            }
        }
    }

    private static void hasAll(char kind) {
        for (int places = 0; places < 64; places++) {
            CalledNumbers x = EdgesOfHalls.marked(kind, places);
            int has = has(kind, places) ? 1 : 0;
            Checks.told(kind + " with " + places + " has it", x, x.player(0, 3), has);
            Checks.due(kind + " with " + places + " wins by a call", x.call(8), has);
        }
    }

    private static void marksAndHas() {
        Doc.says(T, "A PLAYER HAS it, if a LINE is MARKED;");
        hasAll('p');
        Doc.says(T, "a WHOLE one (LATE, too), if both are;");
        hasAll('w');
        hasAll('l');
        Doc.says(T, "a HASTY one, if of each LINE two are, or a LINE is;");
        hasAll('h');
        Doc.says(T, "all others as a PLAYER.");
        hasAll('d');
        hasAll('s');
    }

    private static void won() {
        Doc.says(T, "One who HAS it behind a CALL has WON");
        CalledNumbers x = Checks.hallOf("p" + CARD + "l" + CARD);
        x.call(1);
        x.call(2);
        Checks.due("behind two", x.count(5), 0);
        Checks.due("behind three", x.call(3), 1);
        Checks.due("won", x.count(5), 1);
        for (int place = 2; place < 6; place++) {
            x.rub(1, place);
        }
        Checks.due("all by hand, but no call", x.count(5), 1);
        Checks.due("behind a call of no number of its card", x.call(12), 2);
        Doc.says(T, "(it is so for good, whatever is rubbed out).");
        for (int place = 0; place < 6; place++) {
            x.rub(1, place);
            Checks.due("won, though rubbed out", x.count(5), 3);
        }
        Checks.told("nothing is marked", x, x.player(1, 1), 0);
        Checks.told("won", x, x.player(1, 2), 1);
        Checks.due("behind a call more", x.call(11), 0);
        Checks.due("won still", x.count(5), 3);
    }

    private static void deeds() {
        Doc.says(T, "CALL 0 is next at first, nothing is MARKED, all NUMBERS are in the bag.");
        CalledNumbers x = Checks.hallOf("p" + CARD + "s" + CARD);
        Checks.due("the next call", x.count(1), 0);
        Checks.due("all marks", x.count(6), 0);
        Checks.due("the bag", x.count(3), Checks.BAG);
        Doc.says(T, "A CALL: a NUMBER that is in the bag is taken out.");
        int bag = Checks.BAG;
        for (int number : new int[] {12, 1, 7}) {
            x.call(number);
            bag &= ~(1 << number);
            Checks.due("the bag without " + number, x.count(3), bag);
            Checks.stays("call(" + number + ") again", x, CalledNumbers.STATE, () -> x.call(number));
        }
        Doc.says(T, "What is done: a CALL, a PLACE of a CARD is MARKED, or rubbed out, by hand "
            + "(nobody WINS by it till a CALL).");
        Checks.due("deeds", x.count(2), 3);
        Checks.due("rubbed out", x.rub(0, 0), 0);
        Checks.due("marked", x.rub(0, 0), 1);
        x.rub(0, 1);
        x.rub(0, 2);
        Checks.due("nobody has won", x.count(5), 0);
        Checks.due("deeds", x.count(2), 7);
        Checks.due("it wins by a call", x.call(11), 1);
        Doc.says(T, "These are DEEDS 0, 1, .. (40 at most).");
        Checks.due("undo from deed 7 on", x.undo(7), 1);
        for (int k = 7; k < 40; k++) {
            Checks.holds("deed " + k, x.rub(1, 3) >= 0);
        }
        Checks.stays("rub, deed 40", x, CalledNumbers.FULL, () -> x.rub(1, 3));
        Checks.stays("call, deed 40", x, CalledNumbers.FULL, () -> x.call(11));
        Checks.stays("lots, deed 40", x, CalledNumbers.FULL, () -> x.lots(1, 1));
    }

    private static void lots() {
        Doc.says(T, "LOTS: a number comes from the one ahead by 48271 times it modulo 2147483647");
        CalledNumbers x = Checks.hallOf("p" + CARD);
        // 12 leaves 7 of 48271, and 6 of the next one.
        x.lots(2, 1);
        Checks.due("48271 calls 8, 182605794 calls 7", x.count(3), Checks.BAG & ~Checks.bits(8, 7));
        Doc.says(T, "the first from a seed (1 .. 2147483646).");
        x.undo(0);
        x.lots(1, 2147483646);
        // The last seed gives 2147483647 - 48271, which is 2147435376.
        Checks.due("2147435376 calls 1", x.count(4), 1);
        for (int seed : Checks.outside(1, 2147483646)) {
            Checks.bad("lots(1, " + seed + ")", x, () -> x.lots(1, seed));
        }
    }

    private static void asides() {
        Doc.says(T, "---- 1 rows, texts, halls.");
        Checks.due("row(0, 0)", new CalledNumbers().row(0, 0), 0);
        Doc.says(T, "---- 2 deeds.");
        Checks.due("undo(0)", new CalledNumbers().undo(0), 0);
        Doc.says(T, "---- 3 what comes (aside; NUMBERS that are not in the bag can't be called).");
        CalledNumbers x = Checks.hallOf("p" + CARD + "h" + CARD);
        x.call(1);
        x.call(2);
        Checks.fill(x, 0, 3, 4);
        long before = x.digest();
        x.hears(0, 3, 2, 2);
        x.run(0);
        x.safe();
        Checks.due("digest() behind hears, run, safe", x.digest(), before);
        Checks.due("fewest(0, 0)", x.fewest(0, 0), 1);
        Checks.rowIs("3, not 1 or 2", x, 0, 3);
        Checks.due("most(4, 0)", x.most(4, 0), 2);
        Checks.rowIs("from 3 on", x, 0, 3, 4, 5, 6);
        x.row(0, 2);
        x.lay(0, 0, 3);
        x.lay(0, 1, 4);
        Checks.due("digest() behind fewest, most", x.digest(), before);
        Doc.says(T, "---- 4 which number, which kind.");
        Checks.due("which(0, 7)", x.which(0, 7), 8);
        Doc.says(T, "---- 5 by turns.");
        Checks.due("duel(0, 1, 1)", x.duel(0, 1, 1), 1);
        Doc.says(T, "---- 6 chances, lots (n (0 .. 3) CALLS by lot, each NUMBER in the bag as likely; "
            + "as many as there are).");
        Checks.share("one of ten", x, x.odds(0, 1), 1, 10);
        Checks.share("none", x, x.odds(0, 0), 0, 1);
        for (int number = 6; number <= 12; number++) {
            x.call(number);
        }
        Checks.share("by 3 of 3, 4, 5", x, x.odds(0, 1), 1, 3);
        Checks.share("by all three", x, x.odds(0, 3), 1, 1);
        x.call(3);
        x.call(4);
        Checks.share("5 alone is left", x, x.mid(0, 3), 6, 1);
        Checks.bad("odds(0, 4)", x, () -> x.odds(0, 4));
        Doc.says(T, "---- 7 what is told.");
        Checks.due("upper()", x.upper(), 6);
    }
}
