/** Promises 1 to 7, sentence by sentence. */
final class EdgesOfRows {
    private static final int NOTHING = 1, BEYOND = 2, NOUGHT = 4, SIZE = 5;
    private static final int[] NO_ROWS = Checks.outside(0, 5);

    private EdgesOfRows() {
    }

    static void all() {
        newObject();
        row();
        lay();
        at();
        tear();
        copy();
        copyRefused();
        mean();
    }

    private static void newObject() {
        Doc.says(1, "No ROWS, TEXTS, PLAYERS.");
        CalledNumbers x = new CalledNumbers();
        Checks.due("count(9)", x.count(9), 0);
        Checks.due("count(10)", x.count(10), 0);
        Checks.due("count(0)", x.count(0), 0);
        for (int r = 0; r <= 5; r++) {
            int missing = r;
            Checks.finds("tear(" + r + ")", x, NOTHING, () -> x.tear(missing));
        }
        for (int t = 0; t <= 3; t++) {
            int missing = t;
            Checks.finds("fault(" + t + ")", x, NOTHING, () -> x.fault(missing));
        }
        Checks.bad("player(0, 0)", x, () -> x.player(0, 0));
    }

    private static void row() {
        Doc.says(2, "A ROW is there with n ints 0: n.");
        for (int r = 0; r <= 5; r++) {
            for (int n : new int[] {0, 1, 2, 39, 40}) {
                CalledNumbers x = new CalledNumbers();
                Checks.due("row(" + r + ", " + n + ")", x.row(r, n), n);
                Checks.rowIs("row(" + r + ", " + n + ")", x, r, new int[n]);
                Checks.due("one row is there", x.count(9), 1);
            }
        }
        CalledNumbers x = new CalledNumbers();
        Checks.fill(x, 2, 7, 8, 9);
        Checks.due("row(2, 1), shorter", x.row(2, 1), 1);
        Checks.rowIs("row(2, 1), shorter", x, 2, 0);
        x.lay(2, 0, 6);
        Checks.due("row(2, 4), longer", x.row(2, 4), 4);
        Checks.rowIs("row(2, 4), longer", x, 2, 0, 0, 0, 0);
        Doc.says(2, "BAD: also n above 40");
        for (int n : Checks.above(40)) {
            Checks.bad("row(2, " + n + ")", x, () -> x.row(2, n));
        }
        for (int r : NO_ROWS) {
            Checks.bad("row(" + r + ", 0)", x, () -> x.row(r, 0));
            Checks.bad("row(" + r + ", 41)", x, () -> x.row(r, 41));
            Checks.bad("row(" + r + ", -1)", x, () -> x.row(r, -1));
        }
        Doc.says(2, "SIZE: below 0.");
        for (int n : Checks.below(0)) {
            Checks.finds("row(2, " + n + "), there", x, SIZE, () -> x.row(2, n));
            Checks.finds("row(3, " + n + "), missing", x, SIZE, () -> x.row(3, n));
        }
    }

    private static void lay() {
        Doc.says(3, "Place i of a ROW is v: what it was, told by asked(): 1.");
        CalledNumbers x = new CalledNumbers();
        x.row(0, 40);
        x.row(5, 1);
        for (int i : new int[] {0, 39}) {
            Checks.told("lay(0, " + i + ", 5)", x, x.lay(0, i, 5), 0);
            Checks.told("lay(0, " + i + ", least)", x, x.lay(0, i, Integer.MIN_VALUE), 5);
            Checks.told("lay(0, " + i + ", most)", x, x.lay(0, i, Integer.MAX_VALUE), Integer.MIN_VALUE);
            Checks.told("lay(0, " + i + ", -1)", x, x.lay(0, i, -1), Integer.MAX_VALUE);
            Checks.told("lay(0, " + i + ", 7)", x, x.lay(0, i, 7), -1);
        }
        Checks.told("its neighbour", x, x.at(0, 1), 0);
        Checks.told("its neighbour", x, x.at(0, 38), 0);
        Checks.told("another row", x, x.lay(5, 0, 3), 0);
        Doc.says(3, "BAD");
        for (int r : NO_ROWS) {
            Checks.bad("lay(" + r + ", 0, 9)", x, () -> x.lay(r, 0, 9));
            Checks.bad("lay(" + r + ", -1, 9)", x, () -> x.lay(r, -1, 9));
        }
        Doc.says(3, "NOTHING");
        Checks.finds("lay(1, 0, 9)", x, NOTHING, () -> x.lay(1, 0, 9));
        Checks.finds("lay(1, -1, 9)", x, NOTHING, () -> x.lay(1, -1, 9));
        Checks.finds("lay(1, 40, 9)", x, NOTHING, () -> x.lay(1, 40, 9));
        Doc.says(3, "BEYOND");
        for (int i : Checks.outside(0, 39)) {
            Checks.finds("lay(0, " + i + ", 9)", x, BEYOND, () -> x.lay(0, i, 9));
        }
        Checks.finds("lay(5, 1, 9)", x, BEYOND, () -> x.lay(5, 1, 9));
        x.row(5, 0);
        Checks.finds("lay(5, 0, 9), empty", x, BEYOND, () -> x.lay(5, 0, 9));
    }

    private static void at() {
        Doc.says(4, "Place i of a ROW, told by asked(): 1.");
        CalledNumbers x = new CalledNumbers();
        x.row(1, 40);
        x.lay(1, 0, Integer.MIN_VALUE);
        x.lay(1, 39, Integer.MAX_VALUE);
        Checks.told("at(1, 0)", x, x.at(1, 0), Integer.MIN_VALUE);
        Checks.told("at(1, 39)", x, x.at(1, 39), Integer.MAX_VALUE);
        Checks.told("at(1, 0), again", x, x.at(1, 0), Integer.MIN_VALUE);
        Doc.says(4, "BAD");
        for (int r : NO_ROWS) {
            Checks.bad("at(" + r + ", 0)", x, () -> x.at(r, 0));
            Checks.bad("at(" + r + ", -1)", x, () -> x.at(r, -1));
        }
        Doc.says(4, "NOTHING");
        Checks.finds("at(0, 0)", x, NOTHING, () -> x.at(0, 0));
        Checks.finds("at(0, -1)", x, NOTHING, () -> x.at(0, -1));
        Checks.finds("at(0, 40)", x, NOTHING, () -> x.at(0, 40));
        Doc.says(4, "BEYOND");
        for (int i : Checks.outside(0, 39)) {
            Checks.finds("at(1, " + i + ")", x, BEYOND, () -> x.at(1, i));
        }
        x.row(1, 0);
        Checks.finds("at(1, 0), empty", x, BEYOND, () -> x.at(1, 0));
    }

    private static void tear() {
        Doc.says(5, "A ROW is missing: 1.");
        CalledNumbers x = new CalledNumbers();
        for (int r = 0; r <= 5; r++) {
            x.row(r, r * 8);
        }
        for (int r = 0; r <= 5; r++) {
            int torn = r;
            Checks.due("tear(" + r + ")", x.tear(r), 1);
            Checks.due("count(9) behind tear(" + r + ")", x.count(9), 5 - r);
            Checks.finds("at(" + r + ", 0)", x, NOTHING, () -> x.at(torn, 0));
        }
        Doc.says(5, "BAD");
        for (int r : NO_ROWS) {
            Checks.bad("tear(" + r + ")", x, () -> x.tear(r));
        }
        Doc.says(5, "NOTHING");
        Checks.finds("tear(0), torn", x, NOTHING, () -> x.tear(0));
        Checks.finds("tear(5), torn", x, NOTHING, () -> x.tear(5));
    }

    private static void copy() {
        Doc.says(6, "n places of a ROW, from one on, come to those of another one");
        CalledNumbers x = new CalledNumbers();
        int[] forty = new int[40];
        for (int i = 0; i < 40; i++) {
            forty[i] = 100 + i;
        }
        Checks.fill(x, 0, forty);
        x.row(1, 40);
        Checks.due("copy of all forty", x.copy(0, 0, 1, 0, 40), 1);
        Checks.rowIs("copy of all forty", x, 1, forty);
        x.row(2, 3);
        Checks.due("copy of the last one to the first", x.copy(0, 39, 2, 0, 1), 1);
        Checks.due("copy of the first one to the last", x.copy(0, 0, 2, 2, 1), 1);
        Checks.rowIs("copies of one", x, 2, 139, 0, 100);
        Checks.due("copy of none, at the ends", x.copy(0, 40, 2, 3, 0), 1);
        Checks.rowIs("copy of none", x, 2, 139, 0, 100);
        x.row(3, 0);
        Checks.due("copy of none, of empty ones", x.copy(3, 0, 3, 0, 0), 1);
        Checks.rowIs("copy of none, of empty ones", x, 3);
        Doc.says(6, "(perhaps itself) from one on, as if taken ahead: 1.");
        Checks.fill(x, 4, 1, 2, 3, 4, 5, 6);
        Checks.due("copy up by one", x.copy(4, 0, 4, 1, 5), 1);
        Checks.rowIs("copy up by one", x, 4, 1, 1, 2, 3, 4, 5);
        Checks.due("copy down by two", x.copy(4, 2, 4, 0, 4), 1);
        Checks.rowIs("copy down by two", x, 4, 2, 3, 4, 5, 4, 5);
        Checks.due("copy on its own place", x.copy(4, 0, 4, 0, 6), 1);
        Checks.rowIs("copy on its own place", x, 4, 2, 3, 4, 5, 4, 5);
    }

    private static void copyRefused() {
        CalledNumbers x = new CalledNumbers();
        Checks.fill(x, 0, 1, 2, 3);
        Checks.fill(x, 1, 4, 5);
        Doc.says(6, "BAD");
        for (int r : NO_ROWS) {
            Checks.bad("copy from " + r, x, () -> x.copy(r, 0, 1, 0, 1));
            Checks.bad("copy to " + r, x, () -> x.copy(0, 0, r, 0, 1));
            Checks.bad("copy from " + r + " to a missing one, fewer than none", x, () -> x.copy(r, 9, 4, 9, -1));
            Checks.bad("copy from a missing one to " + r + ", fewer than none", x, () -> x.copy(4, 9, r, 9, -1));
        }
        Doc.says(6, "SIZE: n below 0");
        for (int n : Checks.below(0)) {
            Checks.finds("copy of " + n, x, SIZE, () -> x.copy(0, 0, 1, 0, n));
            Checks.finds("copy of " + n + ", missing", x, SIZE, () -> x.copy(4, 0, 5, 0, n));
            Checks.finds("copy of " + n + ", beyond", x, SIZE, () -> x.copy(0, 9, 1, 9, n));
        }
        Doc.says(6, "NOTHING: either");
        Checks.finds("copy from a missing one", x, NOTHING, () -> x.copy(4, 0, 1, 0, 1));
        Checks.finds("copy to a missing one", x, NOTHING, () -> x.copy(0, 0, 4, 0, 1));
        Checks.finds("copy of none from a missing one", x, NOTHING, () -> x.copy(4, 0, 1, 0, 0));
        Checks.finds("copy of none to a missing one", x, NOTHING, () -> x.copy(0, 0, 4, 0, 0));
        Checks.finds("copy from beyond to a missing one", x, NOTHING, () -> x.copy(0, 9, 4, 0, 1));
        Checks.finds("copy of a missing one to beyond", x, NOTHING, () -> x.copy(4, 0, 0, 9, 1));
        Doc.says(6, "BEYOND: not so many there.");
        Checks.finds("copy of four of three", x, BEYOND, () -> x.copy(0, 0, 0, 0, 4));
        Checks.finds("copy of three to two", x, BEYOND, () -> x.copy(0, 0, 1, 0, 3));
        Checks.finds("copy from one too late", x, BEYOND, () -> x.copy(0, 2, 1, 0, 2));
        Checks.finds("copy to one too late", x, BEYOND, () -> x.copy(0, 0, 1, 1, 2));
        Checks.finds("copy of none from behind the end", x, BEYOND, () -> x.copy(0, 4, 1, 0, 0));
        Checks.finds("copy of none to behind the end", x, BEYOND, () -> x.copy(0, 0, 1, 3, 0));
        for (int i : Checks.outside(0, 3)) {
            Checks.finds("copy from " + i, x, BEYOND, () -> x.copy(0, i, 1, 0, 1));
            Checks.finds("copy to " + i, x, BEYOND, () -> x.copy(0, 0, 1, i, 1));
        }
        Checks.finds("copy of as many as can be told", x, BEYOND, () -> x.copy(0, 1, 1, 1, Integer.MAX_VALUE));
        Checks.finds("copy up to 2 by a wrap-around", x, BEYOND, () -> x.copy(0, -5, 1, 0, 7));
        x.row(2, 0);
        Checks.finds("copy of one from an empty one", x, BEYOND, () -> x.copy(2, 0, 1, 0, 1));
        Checks.finds("copy of one to an empty one", x, BEYOND, () -> x.copy(0, 0, 2, 0, 1));
    }

    private static void meanOf(int mean, int... ints) {
        CalledNumbers x = new CalledNumbers();
        Checks.fill(x, 3, ints);
        Checks.told("mean of " + java.util.Arrays.toString(ints), x, x.mean(3), mean);
    }

    private static void mean() {
        Doc.says(7, "The mean of a ROW's ints, cut, told by asked(): 1.");
        meanOf(5, 5);
        meanOf(0, 1, 0);
        meanOf(0, -1, 0);
        meanOf(1, 1, 2, 2);
        meanOf(-1, -1, -2, -2);
        meanOf(2, 2, 2, 2);
        meanOf(Integer.MAX_VALUE, Integer.MAX_VALUE, Integer.MAX_VALUE);
        meanOf(Integer.MIN_VALUE, Integer.MIN_VALUE, Integer.MIN_VALUE);
        meanOf(0, Integer.MIN_VALUE, Integer.MAX_VALUE);
        int[] forty = new int[40];
        java.util.Arrays.fill(forty, Integer.MAX_VALUE);
        meanOf(Integer.MAX_VALUE, forty);
        forty[0]--;
        meanOf(Integer.MAX_VALUE - 1, forty);
        CalledNumbers x = new CalledNumbers();
        Checks.fill(x, 0, 3);
        x.mean(0);
        Doc.says(7, "BAD");
        for (int r : NO_ROWS) {
            Checks.bad("mean(" + r + ")", x, () -> x.mean(r));
        }
        Doc.says(7, "NOTHING");
        Checks.finds("mean(1), missing", x, NOTHING, () -> x.mean(1));
        Doc.says(7, "NOUGHT");
        x.row(1, 0);
        Checks.finds("mean(1), of none", x, NOUGHT, () -> x.mean(1));
    }
}
