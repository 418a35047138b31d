/** What the tests share: answers that are looked at, and halls that are made by a text. */
final class Checks {
    /** All numbers in the bag. */
    static final int BAG = 0x1FFE;

    private static int looked = 0;
    private static int wrong = 0;

    private Checks() {
    }

    static void due(String what, long got, long want) {
        looked++;
        if (got != want) {
            wrong++;
            System.out.println(what + " answered " + got + ", due is " + want);
        }
    }

    static void holds(String what, boolean fact) {
        due(what, fact ? 1 : 0, 1);
    }

    /** What was told by asked(), behind a call that answers 1. */
    static void told(String what, CalledNumbers x, int answer, int want) {
        due(what, answer, 1);
        due(what + ", asked()", x.asked(), want);
    }

    /** That a call was refused by a finding, and by which one. */
    static void refused(String what, CalledNumbers x, int answer, int finding) {
        due(what, answer, CalledNumbers.FINDING);
        due(what + ", finding()", x.finding(), finding);
    }

    /** Writes a text, made anew. */
    static void write(CalledNumbers x, int t, String text) {
        x.text(t, text.length());
        for (int i = 0; i < text.length(); i++) {
            x.put(t, i, text.charAt(i));
        }
    }

    /** Makes a row of these numbers, anew. */
    static void fill(CalledNumbers x, int r, int... numbers) {
        x.row(r, numbers.length);
        for (int i = 0; i < numbers.length; i++) {
            x.lay(r, i, numbers[i]);
        }
    }

    /** A new object with a hall by this text, which has to be without a fault. */
    static CalledNumbers hallOf(String text) {
        CalledNumbers x = new CalledNumbers();
        write(x, 3, text);
        holds("hall by '" + text + "'", x.hall(3) > 0);
        return x;
    }

    /** That a row is there with just these numbers; asked() and findings change by it. */
    static void rowIs(String what, CalledNumbers x, int r, int... numbers) {
        for (int i = 0; i < numbers.length; i++) {
            told(what + ", place " + i, x, x.at(r, i), numbers[i]);
        }
        refused(what + ", its end", x, x.at(r, numbers.length), 2);
    }

    /** Bits of a set of numbers. */
    static int bits(int... numbers) {
        int set = 0;
        for (int number : numbers) {
            set |= 1 << number;
        }
        return set;
    }

    static void end() {
        System.out.println(looked + " answers looked at, " + wrong + " wrong");
        if (looked == 0 || wrong != 0) {
            System.exit(1);
        }
    }
}
