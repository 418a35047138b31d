/** Promises 1 to 7: a new object, row, lay, at, tear, copy, mean. */
final class RowsTest {
    private static final int NOTHING = 1, BEYOND = 2, NOUGHT = 4, SIZE = 5;
    private static final int[] NO_ROWS = {-1, 6, Integer.MIN_VALUE, Integer.MAX_VALUE};

    public static void main(String[] args) {
        newObject();
        row();
        layAndAt();
        tear();
        copy();
        copyRefused();
        mean();
        Checks.end();
    }

    private static void newObject() {
        CalledNumbers x = new CalledNumbers();
        for (int what = 0; what <= 11; what++) {
            Checks.due("new, count(" + what + ")", x.count(what), 0);
        }
        Checks.due("new, asked()", x.asked(), 0);
        Checks.due("new, upper()", x.upper(), 0);
        Checks.due("new, lower()", x.lower(), 1);
        Checks.due("new, finding()", x.finding(), 0);
        for (int f = 1; f <= 5; f++) {
            Checks.due("new, findings(" + f + ")", x.findings(f), 0);
        }
        long h = 17;
        for (int k = 0; k < 12; k++) {
            h = 31 * h;
        }
        for (int k = 0; k < 13; k++) {
            h = 31 * h - 1;
        }
        Checks.due("new, digest()", x.digest(), h);
        for (int r = 0; r < 6; r++) {
            Checks.refused("new, at", x, x.at(r, 0), NOTHING);
        }
        for (int t = 0; t < 4; t++) {
            Checks.refused("new, fault", x, x.fault(t), NOTHING);
        }
        Checks.due("new, player(0, 0)", x.player(0, 0), CalledNumbers.BAD);
    }

    private static void row() {
        CalledNumbers x = new CalledNumbers();
        Checks.due("row(0, 0)", x.row(0, 0), 0);
        Checks.due("row(5, 40)", x.row(5, 40), 40);
        Checks.told("at(5, 39)", x, x.at(5, 39), 0);
        Checks.due("row(5, 41)", x.row(5, 41), CalledNumbers.BAD);
        Checks.due("row(5, most)", x.row(5, Integer.MAX_VALUE), CalledNumbers.BAD);
        Checks.refused("row(5, -1)", x, x.row(5, -1), SIZE);
        Checks.refused("row(5, least)", x, x.row(5, Integer.MIN_VALUE), SIZE);
        Checks.told("at(5, 39) behind refusals", x, x.at(5, 39), 0);
        for (int r : NO_ROWS) {
            Checks.due("row(" + r + ", 3)", x.row(r, 3), CalledNumbers.BAD);
            Checks.due("row(" + r + ", -3)", x.row(r, -3), CalledNumbers.BAD);
        }
        Checks.due("findings(SIZE)", x.findings(SIZE), 2);
        x.lay(5, 2, 77);
        Checks.due("row(5, 3), anew", x.row(5, 3), 3);
        Checks.rowIs("row anew", x, 5, 0, 0, 0);
        x.lay(5, 2, 78);
        x.row(5, 1);
        Checks.due("row(5, 4), anew", x.row(5, 4), 4);
        Checks.rowIs("row longer anew", x, 5, 0, 0, 0, 0);
    }

    private static void layAndAt() {
        CalledNumbers x = new CalledNumbers();
        x.row(2, 3);
        Checks.told("lay(2, 1, 9)", x, x.lay(2, 1, 9), 0);
        Checks.told("lay(2, 1, least)", x, x.lay(2, 1, Integer.MIN_VALUE), 9);
        Checks.told("at(2, 1)", x, x.at(2, 1), Integer.MIN_VALUE);
        Checks.told("at(2, 0)", x, x.at(2, 0), 0);
        Checks.told("lay(2, 1, 5)", x, x.lay(2, 1, 5), Integer.MIN_VALUE);
        for (int i : new int[] {-1, 3, 40, Integer.MIN_VALUE, Integer.MAX_VALUE}) {
            Checks.refused("lay(2, " + i + ", 1)", x, x.lay(2, i, 1), BEYOND);
            Checks.refused("at(2, " + i + ")", x, x.at(2, i), BEYOND);
        }
        Checks.refused("lay(1, 0, 1)", x, x.lay(1, 0, 1), NOTHING);
        Checks.refused("lay(1, -1, 1)", x, x.lay(1, -1, 1), NOTHING);
        Checks.refused("at(1, 0)", x, x.at(1, 0), NOTHING);
        for (int r : NO_ROWS) {
            Checks.due("lay(" + r + ", 0, 1)", x.lay(r, 0, 1), CalledNumbers.BAD);
            Checks.due("at(" + r + ", 0)", x.at(r, 0), CalledNumbers.BAD);
        }
        Checks.due("asked() behind refusals", x.asked(), Integer.MIN_VALUE);
        Checks.rowIs("row behind refusals", x, 2, 0, 5, 0);
    }

    private static void tear() {
        CalledNumbers x = new CalledNumbers();
        Checks.refused("tear(4)", x, x.tear(4), NOTHING);
        x.row(4, 0);
        Checks.due("tear(4), there", x.tear(4), 1);
        Checks.refused("tear(4), twice", x, x.tear(4), NOTHING);
        Checks.due("count(9)", x.count(9), 0);
        for (int r : NO_ROWS) {
            Checks.due("tear(" + r + ")", x.tear(r), CalledNumbers.BAD);
        }
        Checks.fill(x, 4, 8, 9);
        x.tear(4);
        x.row(4, 2);
        Checks.rowIs("row behind tear", x, 4, 0, 0);
    }

    private static void copy() {
        CalledNumbers x = new CalledNumbers();
        Checks.fill(x, 0, 1, 2, 3, 4, 5);
        Checks.fill(x, 1, 0, 0, 0);
        Checks.due("copy(0, 2, 1, 0, 3)", x.copy(0, 2, 1, 0, 3), 1);
        Checks.rowIs("copied", x, 1, 3, 4, 5);
        Checks.due("copy(0, 0, 0, 1, 4)", x.copy(0, 0, 0, 1, 4), 1);
        Checks.rowIs("copied on itself, up", x, 0, 1, 1, 2, 3, 4);
        Checks.due("copy(0, 1, 0, 0, 4)", x.copy(0, 1, 0, 0, 4), 1);
        Checks.rowIs("copied on itself, down", x, 0, 1, 2, 3, 4, 4);
        Checks.due("copy(0, 5, 1, 3, 0)", x.copy(0, 5, 1, 3, 0), 1);
        x.row(2, 0);
        Checks.due("copy(2, 0, 2, 0, 0)", x.copy(2, 0, 2, 0, 0), 1);
        Checks.rowIs("none copied", x, 1, 3, 4, 5);
    }

    private static void copyRefused() {
        CalledNumbers x = new CalledNumbers();
        Checks.fill(x, 0, 1, 2, 3);
        Checks.fill(x, 1, 4, 5);
        Checks.refused("copy, too many", x, x.copy(0, 0, 1, 0, 3), BEYOND);
        Checks.refused("copy, too late", x, x.copy(0, 2, 1, 0, 2), BEYOND);
        Checks.refused("copy, from below", x, x.copy(0, -1, 1, 0, 1), BEYOND);
        Checks.refused("copy, to below", x, x.copy(0, 0, 1, -1, 1), BEYOND);
        Checks.refused("copy, none beyond", x, x.copy(0, 4, 1, 0, 0), BEYOND);
        Checks.refused("copy, none to beyond", x, x.copy(0, 0, 1, 3, 0), BEYOND);
        Checks.refused("copy, from far", x, x.copy(0, Integer.MAX_VALUE, 1, 0, 1), BEYOND);
        Checks.refused("copy, to far", x, x.copy(0, 1, 1, Integer.MAX_VALUE, 2), BEYOND);
        Checks.refused("copy, very many", x, x.copy(0, 1, 1, 1, Integer.MAX_VALUE), BEYOND);
        Checks.refused("copy, from missing", x, x.copy(2, 9, 1, 0, 1), NOTHING);
        Checks.refused("copy, to missing", x, x.copy(0, 9, 2, 0, 1), NOTHING);
        Checks.refused("copy, fewer than none", x, x.copy(0, 0, 1, 0, -1), SIZE);
        Checks.refused("copy, fewer, missing", x, x.copy(3, 0, 2, 0, -1), SIZE);
        for (int r : NO_ROWS) {
            Checks.due("copy from " + r, x.copy(r, 0, 1, 0, -1), CalledNumbers.BAD);
            Checks.due("copy to " + r, x.copy(0, 0, r, 0, -1), CalledNumbers.BAD);
        }
        Checks.rowIs("from behind refusals", x, 0, 1, 2, 3);
        Checks.rowIs("to behind refusals", x, 1, 4, 5);
    }

    private static void mean() {
        CalledNumbers x = new CalledNumbers();
        Checks.fill(x, 0, 1, 2, 2);
        Checks.told("mean of 5 by 3", x, x.mean(0), 1);
        Checks.fill(x, 0, -1, -2, -2);
        Checks.told("mean of -5 by 3, cut", x, x.mean(0), -1);
        Checks.fill(x, 0, Integer.MAX_VALUE, Integer.MAX_VALUE, Integer.MAX_VALUE);
        Checks.told("mean of great ones", x, x.mean(0), Integer.MAX_VALUE);
        Checks.fill(x, 0, Integer.MIN_VALUE, Integer.MIN_VALUE);
        Checks.told("mean of least ones", x, x.mean(0), Integer.MIN_VALUE);
        Checks.fill(x, 0, 9);
        Checks.told("mean of one", x, x.mean(0), 9);
        x.row(0, 40);
        x.lay(0, 39, 80);
        Checks.told("mean of forty", x, x.mean(0), 2);
        x.row(0, 0);
        Checks.refused("mean of none", x, x.mean(0), NOUGHT);
        Checks.refused("mean of a missing one", x, x.mean(1), NOTHING);
        for (int r : NO_ROWS) {
            Checks.due("mean(" + r + ")", x.mean(r), CalledNumbers.BAD);
        }
        Checks.due("asked() behind refusals", x.asked(), 2);
    }
}
