/** Promises 32 to 38, sentence by sentence. */
final class EdgesOfTold {
    private static final String CARD = "010203040506";

    private EdgesOfTold() {
    }

    static void all() {
        asked();
        askedStays();
        shares();
        counts();
        countsOfHalls();
        findings();
        digest();
    }

    private static void asked() {
        Doc.says(32, "What the latest lay(), at(), mean(), player(), card(), run(), safe(), next(), duel()");
        CalledNumbers x = Checks.hallOf("p" + CARD + "w" + CARD);
        Checks.fill(x, 0, 5, 7);
        x.row(1, 0);
        Checks.due("lay", x.lay(0, 1, 8), 1);
        Checks.due("told by lay", x.asked(), 7);
        Checks.due("at", x.at(0, 1), 1);
        Checks.due("told by at", x.asked(), 8);
        Checks.due("mean", x.mean(0), 1);
        Checks.due("told by mean", x.asked(), 6);
        Checks.due("player", x.player(0, 4), 1);
        Checks.due("told by player", x.asked(), 3);
        Checks.due("card", x.card(1, 3), 1);
        Checks.due("told by card", x.asked(), 4);
        Checks.due("run", x.run(0), 0);
        Checks.due("told by run", x.asked(), 2);
        Checks.due("safe", x.safe(), Checks.BAG);
        Checks.due("told by safe", x.asked(), Checks.BAG);
        Checks.due("next", x.next(0, 1), 1);
        Checks.due("told by next", x.asked(), 4);
        Checks.due("duel", x.duel(0, 1, 0), 1);
        Checks.due("told by duel", x.asked(), 0);
        Doc.says(32, "told; 0 before.");
        Checks.due("new", new CalledNumbers().asked(), 0);
        CalledNumbers y = Checks.hallOf("p" + CARD);
        Checks.due("a hall", y.asked(), 0);
    }

    private static void askedStays() {
        Doc.says(32, "that was not refused (nor NONE)");
        CalledNumbers x = Checks.hallOf("p" + CARD + "w" + CARD);
        Checks.fill(x, 0, 1, 6);
        x.row(1, 0);
        x.card(1, 4);
        Checks.stays("next, NONE", x, CalledNumbers.NONE, () -> x.next(0, 0));
        Checks.stays("fewest, NONE", x, CalledNumbers.NONE, () -> x.fewest(1, 2));
        Checks.due("asked() behind NONE", x.asked(), 5);
        x.lay(0, 2, 1);
        x.at(0, -1);
        x.mean(1);
        x.player(2, 0);
        x.card(0, 6);
        x.run(6);
        x.next(2, 0);
        x.duel(0, 1, 3);
        Checks.due("asked() behind refusals", x.asked(), 5);
        x.row(0, 2);
        x.copy(0, 0, 0, 1, 1);
        x.tear(1);
        x.text(0, 3);
        x.put(0, 0, 9);
        x.fault(0);
        x.mark(1, 1);
        x.call(1);
        x.rub(0, 1);
        x.keep(0);
        x.on(0);
        x.undo(1);
        x.hears(0, 1, 2, 3);
        x.fewest(0, 1);
        x.most(1, 1);
        x.which(0, 3);
        x.row(1, 0);
        x.kinds(0, 1);
        x.odds(0, 2);
        x.mid(0, 2);
        x.lots(1, 1);
        x.hall(3);
        x.count(3);
        x.digest();
        Checks.due("asked() behind all others", x.asked(), 5);
    }

    private static void shares() {
        Doc.says(33, "The upper number that was told last; 0 before.");
        CalledNumbers x = new CalledNumbers();
        Checks.due("new, upper()", x.upper(), 0);
        CalledNumbers y = Checks.hallOf("p" + CARD);
        Checks.due("a hall, upper()", y.upper(), 0);
        y.mid(0, 3);
        Checks.due("upper() by mid", y.upper(), 3);
        y.mid(0, 4);
        y.odds(1, 0);
        y.mean(0);
        Checks.due("upper() behind refusals", y.upper(), 3);
        Doc.says(34, "Its lower number; 1 before.");
        Checks.due("new, lower()", x.lower(), 1);
        Checks.due("lower() by mid", y.lower(), 2);
        y.odds(0, 3);
        Checks.due("lower() by odds", y.lower(), 110);
        Checks.due("and the upper one", y.upper(), 1);
        y.odds(0, 0);
        Checks.due("lower() of 0", y.lower(), 1);
        Checks.due("upper() of 0", y.upper(), 0);
    }

    private static void counts() {
        CalledNumbers none = new CalledNumbers();
        Doc.says(35, "0 PLAYERS");
        for (int n = 1; n <= 4; n++) {
            Checks.due("count(0)", Checks.hallOf(("p" + CARD).repeat(n)).count(0), n);
        }
        CalledNumbers x = Checks.hallOf("p" + CARD + "p121110090807");
        for (int number = 1; number <= 12; number++) {
            x.call(number);
            x.rub(0, 5);
            Doc.says(35, "1 the number of the next CALL");
            Checks.due("count(1)", x.count(1), number);
            Doc.says(35, "2 DEEDS");
            Checks.due("count(2)", x.count(2), 2 * number);
            Doc.says(35, "3 NUMBERS in the bag (bits; 0 without PLAYERS)");
            Checks.due("count(3)", x.count(3), 0x1FFE & ~((2 << number) - 1));
            Doc.says(35, "4 the NUMBER called last (0: none)");
            Checks.due("count(4)", x.count(4), number);
            Doc.says(35, "5 PLAYERS who have WON (bits)");
            Checks.due("count(5)", x.count(5), number < 3 ? 0 : number < 9 ? 1 : 3);
            Doc.says(35, "6 all MARKS");
            x.player(0, 1);
            int first = Integer.bitCount(x.asked());
            x.player(1, 1);
            Checks.due("count(6)", x.count(6), first + Integer.bitCount(x.asked()));
        }
        Doc.says(35, "3 NUMBERS in the bag (bits; 0 without PLAYERS)");
        Checks.due("count(3) without players", none.count(3), 0);
        Checks.due("undo(0) without players", none.undo(0), 0);
        Checks.due("count(3) without players, still", none.count(3), 0);
        Doc.says(35, "4 the NUMBER called last (0: none)");
        x.undo(23);
        Checks.due("count(4), a rub undone", x.count(4), 12);
        x.undo(22);
        Checks.due("count(4), a call undone", x.count(4), 11);
        x.undo(0);
        Checks.due("count(4), all undone", x.count(4), 0);
        Doc.says(35, "BAD.");
        for (int what : Checks.outside(0, 11)) {
            Checks.bad("count(" + what + ")", x, () -> x.count(what));
            Checks.bad("count(" + what + "), new", none, () -> none.count(what));
        }
    }

    private static void countsOfHalls() {
        String[] halls = {"pppp", "wwww", "dddd", "hhhh", "llll", "ssss", "wldp", "sdlh", "p", "ws"};
        for (String kinds : halls) {
            StringBuilder text = new StringBuilder();
            int whole = 0;
            int deaf = 0;
            for (char kind : kinds.toCharArray()) {
                text.append(kind).append(CARD);
                whole += kind == 'w' || kind == 'l' ? 1 : 0;
                deaf += kind == 'd' || kind == 's' ? 1 : 0;
            }
            CalledNumbers x = Checks.hallOf(text.toString());
            Doc.says(35, "7 WHOLE ones (LATE, too)");
            Checks.due(kinds + ", count(7)", x.count(7), whole);
            Doc.says(35, "8 DEAF ones (SLY, too)");
            Checks.due(kinds + ", count(8)", x.count(8), deaf);
        }
        CalledNumbers x = Checks.hallOf("p" + CARD);
        Doc.says(35, "9 ROWS");
        for (int r = 0; r <= 5; r++) {
            x.row(r, r == 0 ? 0 : 40);
            Checks.due("count(9)", x.count(9), r + 1);
        }
        x.row(5, 0);
        Checks.due("count(9), anew", x.count(9), 6);
        x.tear(0);
        Checks.due("count(9), torn", x.count(9), 5);
        x.fewest(0, 0);
        Checks.due("count(9), by fewest", x.count(9), 6);
        Doc.says(35, "10 TEXTS that are there");
        x.text(0, 0);
        Checks.due("count(10), an empty one", x.count(10), 2);
        x.text(1, 60);
        x.text(2, 1);
        Checks.due("count(10), all", x.count(10), 4);
        Doc.says(35, "11 kept HALLS.");
        for (int k = 0; k <= 2; k++) {
            Checks.due("count(11)", x.count(11), k);
            x.keep(k);
        }
        Checks.due("count(11), all", x.count(11), 3);
        x.keep(0);
        x.on(0);
        Checks.due("count(11), still", x.count(11), 3);
        x.hall(3);
        Checks.due("count(11), anew", x.count(11), 0);
    }

    private static void findings() {
        Doc.says(36, "The latest FINDING (0 before any).");
        CalledNumbers x = new CalledNumbers();
        Checks.due("new", x.finding(), 0);
        x.row(6, 0);
        x.call(1);
        Checks.due("behind BAD and STATE", x.finding(), 0);
        x.at(0, 0);
        Checks.due("NOTHING", x.finding(), 1);
        x.row(0, 0);
        Checks.due("what is not refused", x.finding(), 1);
        x.at(0, 0);
        Checks.due("BEYOND", x.finding(), 2);
        x.mean(0);
        Checks.due("NOUGHT", x.finding(), 4);
        x.row(0, -1);
        Checks.due("SIZE", x.finding(), 5);
        x.at(9, 0);
        Checks.due("SIZE still", x.finding(), 5);
        Doc.says(37, "How often a FINDING (1 .. 5) was answered.");
        int[] often = {0, 1, 1, 0, 1, 1};
        for (int f = 1; f <= 5; f++) {
            Checks.due("findings(" + f + ")", x.findings(f), often[f]);
        }
        for (int k = 0; k < 100; k++) {
            x.at(1, 0);
        }
        Checks.due("a hundred more", x.findings(1), 101);
        Checks.due("new", new CalledNumbers().findings(1), 0);
        Doc.says(37, "BAD.");
        for (int f : Checks.outside(1, 5)) {
            Checks.bad("findings(" + f + ")", x, () -> x.findings(f));
        }
    }

    /** What is folded so far, and each v more. */
    private static long h;

    private static void fold(long v) {
        h = 31 * h + v;
    }

    /** What the calls themselves tell, folded; kept halls by how many deeds they have. */
    private static long folded(CalledNumbers x, int[] kept) {
        h = 17;
        for (int what = 0; what <= 11; what++) {
            fold(x.count(what));
        }
        for (int i = 0; i < x.count(0); i++) {
            for (int what = 0; what <= 4; what++) {
                x.player(i, what);
                fold(x.asked());
            }
            for (int place = 0; place <= 5; place++) {
                x.card(i, place);
                fold(x.asked());
            }
        }
        for (int deeds : kept) {
            fold(deeds);
        }
        for (int r = 0; r <= 5; r++) {
            foldRow(x, r);
        }
        for (int t = 0; t <= 3; t++) {
            foldText(x, t);
        }
        return h;
    }

    private static void foldRow(CalledNumbers x, int r) {
        int size = 0;
        while (x.at(r, size) == 1) {
            size++;
        }
        fold(x.finding() == 1 ? -1 : size);
        for (int i = 0; i < size; i++) {
            x.at(r, i);
            fold(x.asked());
        }
    }

    private static void foldText(CalledNumbers x, int t) {
        byte[] bytes = new byte[60];
        int size = 0;
        for (int was = x.put(t, 0, 0); was != CalledNumbers.FINDING; was = x.put(t, size, 0)) {
            bytes[size] = (byte) (was - 1000);
            x.put(t, size, was - 1000);
            size++;
        }
        fold(size == 0 && x.finding() == 1 ? -1 : size);
        for (int i = 0; i < size; i++) {
            fold(bytes[i]);
        }
    }

    private static void digestIs(String what, CalledNumbers x, int... kept) {
        long told = x.digest();
        Checks.due(what, told, folded(x, kept));
        Checks.due(what + ", again", x.digest(), told);
    }

    private static void digest() {
        Doc.says(38, "h = 17; then h = 31 h + v for each v: count() 0 to 11;");
        digestIs("new", new CalledNumbers(), -1, -1, -1);
        Doc.says(38, "of each PLAYER player() 0 to 4, card() of PLACES 0 to 5;");
        for (String hall : new String[] {"h" + CARD, "l121110090807w" + CARD, ("s" + CARD).repeat(4)}) {
            CalledNumbers x = Checks.hallOf(hall);
            digestIs("a hall", x, -1, -1, -1);
            x.lots(15, 6);
            digestIs("behind lots", x, -1, -1, -1);
        }
        Doc.says(38, "of each kept HALL how many DEEDS (-1: missing);");
        CalledNumbers x = Checks.hallOf("p" + CARD);
        x.keep(1);
        digestIs("one without deeds", x, -1, 0, -1);
        x.lots(20, 8);
        x.lots(20, 9);
        x.keep(2);
        x.undo(3);
        x.keep(0);
        digestIs("three", x, 3, 0, 40);
        Doc.says(38, "of each ROW its size (-1: missing) and places, of each TEXT likewise.");
        CalledNumbers y = new CalledNumbers();
        y.row(0, 0);
        y.row(5, 40);
        y.lay(5, 0, Integer.MIN_VALUE);
        y.lay(5, 39, Integer.MAX_VALUE);
        Checks.fill(y, 2, -1, 1);
        y.text(0, 0);
        y.text(3, 60);
        y.put(3, 0, 128);
        y.put(3, 59, 255);
        digestIs("rows and texts", y, -1, -1, -1);
        y.row(5, 1);
        y.text(3, 1);
        digestIs("shorter ones", y, -1, -1, -1);
        y.tear(5);
        digestIs("a torn one", y, -1, -1, -1);
    }
}
