/** Promises 20 to 24: hears, run, safe, fewest, most. */
final class ComesTest {
    private static final int NOTHING = 1, UNLIKE = 3, SIZE = 5;
    private static final String CARD = "010203040506";

    public static void main(String[] args) {
        hears();
        hearsRefused();
        run();
        runIsAside();
        runRefused();
        safe();
        fewest();
        fewestByOrder();
        fewestRefused();
        most();
        mostRefused();
        Checks.end();
    }

    private static CalledNumbers one(char letter) {
        return Checks.hallOf(letter + CARD);
    }

    private static void hears() {
        for (char letter : new char[] {'p', 'w', 'h'}) {
            for (int call : new int[] {0, 1, 2, 99}) {
                Checks.due(letter + " hears 12", one(letter).hears(0, 12, 0, call), 4096);
                Checks.due(letter + " hears 1", one(letter).hears(0, 1, 9, call), 2);
                Checks.due(letter + " hears 2", one(letter).hears(0, 2, 12, call), 4);
            }
        }
        CalledNumbers deaf = one('d');
        CalledNumbers late = one('l');
        CalledNumbers sly = one('s');
        for (int call = 0; call <= 99; call++) {
            boolean nothing = call % 3 == 2;
            Checks.due("d hears 5 at " + call, deaf.hears(0, 5, 4, call), nothing ? 0 : 32);
            Checks.due("l hears 4 at " + call, late.hears(0, 5, 4, call), 16);
            Checks.due("l hears 12 at " + call, late.hears(0, 5, 12, call), 4096);
            Checks.due("l hears nothing at " + call, late.hears(0, 5, 0, call), 0);
            Checks.due("s hears 5, 6 at " + call, sly.hears(0, 5, 4, call), nothing ? 0 : 96);
            Checks.due("s hears 12, 1 at " + call, sly.hears(0, 12, 0, call), nothing ? 0 : 4098);
        }
        deaf.call(5);
        Checks.due("a number that was called", deaf.hears(0, 5, 4, 0), 32);
    }

    private static void hearsRefused() {
        CalledNumbers x = one('p');
        Checks.due("hears, no player", x.hears(1, 1, 0, 0), CalledNumbers.BAD);
        Checks.due("hears, player -1", x.hears(-1, 1, 0, 0), CalledNumbers.BAD);
        Checks.due("hears 0", x.hears(0, 0, 1, 0), CalledNumbers.BAD);
        Checks.due("hears 13", x.hears(0, 13, 1, 0), CalledNumbers.BAD);
        Checks.due("hears, ahead -1", x.hears(0, 1, -1, 0), CalledNumbers.BAD);
        Checks.due("hears, ahead 13", x.hears(0, 1, 13, 0), CalledNumbers.BAD);
        Checks.due("hears, the same ahead", x.hears(0, 7, 7, 0), CalledNumbers.BAD);
        Checks.due("hears, call -1", x.hears(0, 1, 0, -1), CalledNumbers.BAD);
        Checks.due("hears, call 100", x.hears(0, 1, 0, 100), CalledNumbers.BAD);
        Checks.due("hears, no players", new CalledNumbers().hears(0, 1, 0, 0), CalledNumbers.BAD);
    }

    private static void runOf(CalledNumbers x, int[] numbers, int won, int called) {
        Checks.fill(x, 0, numbers);
        String what = "run of " + java.util.Arrays.toString(numbers);
        Checks.due(what, x.run(0), won);
        Checks.due(what + ", asked()", x.asked(), called);
    }

    private static void run() {
        CalledNumbers x = Checks.hallOf("p" + CARD + "d" + CARD + "l" + CARD + "s" + CARD);
        runOf(x, new int[] {}, 0, 0);
        runOf(x, new int[] {1, 2}, 8, 2);
        runOf(x, new int[] {1, 2, 3}, 9, 3);
        runOf(x, new int[] {4, 6, 12, 5}, 1 | 2 | 8, 4);
        runOf(x, new int[] {1, 3, 1, 2}, 8, 2);
        runOf(x, new int[] {1, 2, 3, 4, 5, 6, 7, 8, 9, 10, 11, 12}, 1 | 4 | 8, 12);
        x.call(5);
        runOf(x, new int[] {4, 6, 5, 1}, 9, 2);
        runOf(x, new int[] {5, 1, 2, 3}, 0, 0);
        x.rub(1, 0);
        x.rub(1, 1);
        x.rub(1, 2);
        runOf(x, new int[] {}, 0, 0);
        runOf(x, new int[] {12}, 2, 1);
        x.call(12);
        runOf(x, new int[] {5}, 2, 0);
    }

    private static void runIsAside() {
        CalledNumbers x = Checks.hallOf("p" + CARD);
        Checks.fill(x, 0, 1, 2, 3);
        long before = x.digest();
        Checks.due("run", x.run(0), 1);
        Checks.due("digest() behind run", x.digest(), before);
    }

    private static void runRefused() {
        CalledNumbers none = new CalledNumbers();
        Checks.due("no players, run(9)", none.run(9), CalledNumbers.STATE);
        Checks.due("no players, run(0)", none.run(0), CalledNumbers.STATE);
        CalledNumbers x = one('p');
        for (int r : new int[] {-1, 6, Integer.MIN_VALUE, Integer.MAX_VALUE}) {
            Checks.due("run(" + r + ")", x.run(r), CalledNumbers.BAD);
        }
        Checks.refused("run, missing", x, x.run(0), NOTHING);
        x.row(0, 13);
        Checks.refused("run of 13", x, x.run(0), SIZE);
        for (int number : new int[] {0, 13, -1, 33, Integer.MIN_VALUE, Integer.MAX_VALUE}) {
            Checks.fill(x, 0, 1, 1, number);
            Checks.refused("run with " + number, x, x.run(0), UNLIKE);
            Checks.fill(x, 0, number, 1);
            Checks.refused("run from " + number, x, x.run(0), UNLIKE);
        }
        Checks.fill(x, 0, 1, 2);
        x.run(0);
        x.run(9);
        Checks.due("asked() behind a refusal", x.asked(), 2);
    }

    private static void safe() {
        Checks.due("no players, safe()", new CalledNumbers().safe(), CalledNumbers.STATE);
        CalledNumbers x = Checks.hallOf("p" + CARD + "p030201070809");
        Checks.due("safe(), at first", x.safe(), Checks.BAG);
        Checks.due("asked(), at first", x.asked(), Checks.BAG);
        x.call(1);
        x.call(2);
        x.call(7);
        x.call(9);
        x.call(4);
        x.call(5);
        Checks.due("safe()", x.safe(), Checks.bits(10, 11, 12));
        Checks.due("asked(), both by 3", x.asked(), Checks.bits(3));
        x.call(3);
        Checks.due("safe(), all have won", x.safe(), Checks.bits(6, 8, 10, 11, 12));
        Checks.due("asked(), all have won", x.asked(), Checks.bits(6, 8, 10, 11, 12));
        x.undo(6);
        x.rub(0, 2);
        Checks.due("safe(), one has it", x.safe(), 0);
        Checks.due("asked(), one has it", x.asked(), Checks.bits(3, 8));
        x.undo(0);
        for (int number = 1; number <= 12; number++) {
            x.call(number);
        }
        Checks.due("safe(), the bag is empty", x.safe(), 0);
        Checks.due("asked(), the bag is empty", x.asked(), 0);
        x.undo(0);
        x.call(2);
        x.call(3);
        x.rub(0, 3);
        x.rub(0, 4);
        x.rub(1, 3);
        x.rub(1, 4);
        // By 1 two win, by 6 and 9 one each.
        Checks.due("safe(), one or two", x.safe(), Checks.bits(4, 5, 7, 8, 10, 11, 12));
        Checks.due("asked(), two by 1", x.asked(), Checks.bits(1));
        CalledNumbers y = Checks.hallOf("p101112010203");
        y.call(10);
        y.call(11);
        Checks.due("safe(), the last one wins", y.safe(), Checks.bits(1, 2, 3, 4, 5, 6, 7, 8, 9));
        Checks.due("asked(), the last one wins", y.asked(), Checks.bits(12));
    }

    private static void fewestOf(CalledNumbers x, int i, int... numbers) {
        long before = x.digest();
        Checks.due("fewest(" + i + ", 1)", x.fewest(i, 1), numbers.length);
        Checks.rowIs("fewest(" + i + ", 1)", x, 1, numbers);
        x.tear(1);
        Checks.due("digest() behind fewest", x.digest(), before);
    }

    private static void fewest() {
        CalledNumbers x = Checks.hallOf("p121110010203" + "h070809020406" + "s" + CARD);
        fewestOf(x, 0, 1, 2, 3);
        fewestOf(x, 1, 2, 4, 6);
        fewestOf(x, 2, 1, 2);
        x.call(10);
        x.call(11);
        fewestOf(x, 0, 12);
        x.undo(0);
        x.call(12);
        x.call(11);
        fewestOf(x, 0, 10);
        x.call(10);
        fewestOf(x, 0);
        x.rub(1, 0);
        x.rub(1, 1);
        x.rub(1, 2);
        fewestOf(x, 1, 1);
        x.call(1);
        fewestOf(x, 1);
    }

    private static void fewestByOrder() {
        CalledNumbers deaf = Checks.hallOf("d" + CARD);
        fewestOf(deaf, 0, 1, 2, 4, 3);
        Checks.fill(deaf, 0, 1, 2, 3, 4);
        Checks.due("not by 1, 2, 3, 4", deaf.run(0), 0);
    }

    private static void fewestRefused() {
        CalledNumbers x = Checks.hallOf("w" + CARD + "p" + CARD);
        Checks.fill(x, 1, 77, 78);
        Checks.due("fewest, by none", x.fewest(0, 1), CalledNumbers.NONE);
        Checks.rowIs("fewest, by none", x, 1, 77, 78);
        Checks.due("fewest(2, 1)", x.fewest(2, 1), CalledNumbers.BAD);
        Checks.due("fewest(-1, 1)", x.fewest(-1, 1), CalledNumbers.BAD);
        Checks.due("fewest(0, 6)", x.fewest(0, 6), CalledNumbers.BAD);
        Checks.due("fewest(0, -1)", x.fewest(0, -1), CalledNumbers.BAD);
        Checks.due("no players, fewest", new CalledNumbers().fewest(0, 0), CalledNumbers.BAD);
        x.tear(1);
        x.call(1);
        x.call(2);
        fewestOf(x, 0, 3, 4, 5, 6);
        for (int number = 3; number <= 12; number++) {
            x.call(number);
        }
        x.undo(0);
        x.call(1);
        x.rub(0, 0);
        for (int number = 2; number <= 12; number++) {
            x.call(number);
        }
        Checks.due("fewest, the bag is empty", x.fewest(0, 1), CalledNumbers.NONE);
    }

    private static void mostOf(CalledNumbers x, int n, int most, int... numbers) {
        long before = x.digest();
        Checks.due("most(" + n + ", 5)", x.most(n, 5), most);
        Checks.rowIs("most(" + n + ", 5)", x, 5, numbers);
        x.tear(5);
        Checks.due("digest() behind most", x.digest(), before);
    }

    private static void most() {
        CalledNumbers x = Checks.hallOf("p121110010203" + "h030405090706" + "s010305070911");
        mostOf(x, 0, 0);
        mostOf(x, 1, 0, 1);
        mostOf(x, 2, 0, 1, 2);
        mostOf(x, 3, 1, 1, 2, 3);
        x.call(10);
        x.call(11);
        mostOf(x, 1, 1, 12);
        x.undo(0);
        x.call(12);
        x.call(11);
        mostOf(x, 1, 1, 10);
        mostOf(x, 0, 0);
        x.call(10);
        mostOf(x, 0, 1);
        mostOf(x, 1, 1, 1);
        for (int number = 1; number <= 7; number++) {
            x.call(number);
        }
        mostOf(x, 4, 3, 8, 9);
        x.call(8);
        x.call(9);
        mostOf(x, 4, 3);
    }

    private static void mostRefused() {
        CalledNumbers none = new CalledNumbers();
        Checks.due("no players, most(4, 0)", none.most(4, 0), CalledNumbers.STATE);
        Checks.due("no players, most(5, 0)", none.most(5, 0), CalledNumbers.BAD);
        Checks.due("no players, most(0, 6)", none.most(0, 6), CalledNumbers.BAD);
        CalledNumbers x = one('p');
        Checks.due("most(5, 0)", x.most(5, 0), CalledNumbers.BAD);
        Checks.due("most(-1, 0)", x.most(-1, 0), CalledNumbers.BAD);
        Checks.due("most(1, -1)", x.most(1, -1), CalledNumbers.BAD);
        Checks.due("most(1, 6)", x.most(1, 6), CalledNumbers.BAD);
        Checks.due("no row came of it", x.count(9), 0);
    }
}
