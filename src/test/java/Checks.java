import java.util.function.IntSupplier;

/** What the tests share: answers that are looked at, and halls that are made by a text. */
final class Checks {
    /** All numbers in the bag. */
    static final int BAG = 0x1FFE;

    private static final String[] TOLD = {
        "finding()", "findings(1)", "findings(2)", "findings(3)", "findings(4)", "findings(5)",
        "asked()", "upper()", "lower()", "digest()"
    };

    private static int looked = 0;
    private static int wrong = 0;
    private static String quoted = "";

    private Checks() {
    }

    static void due(String what, long got, long want) {
        looked++;
        if (got != want) {
            wrong++;
            System.out.println(quoted + what + " answered " + got + ", due is " + want);
        }
    }

    /** The sentence of the document that the answers behind it are due by. */
    static void quote(String words) {
        quoted = words.isEmpty() ? "" : "'" + words + "': ";
    }

    static int looked() {
        return looked;
    }

    static void holds(String what, boolean fact) {
        due(what, fact ? 1 : 0, 1);
    }

    /** What was told by asked(), behind a call that answers 1. */
    static void told(String what, CalledNumbers x, int answer, int want) {
        due(what, answer, 1);
        due(what + ", asked()", x.asked(), want);
    }

    /** What was told by upper() and lower(), behind a call that answers 1. */
    static void share(String what, CalledNumbers x, int answer, long upper, long lower) {
        due(what, answer, 1);
        due(what + ", upper()", x.upper(), upper);
        due(what + ", lower()", x.lower(), lower);
    }

    /** That a call was refused by a finding, and by which one. */
    static void refused(String what, CalledNumbers x, int answer, int finding) {
        due(what, answer, CalledNumbers.FINDING);
        due(what + ", finding()", x.finding(), finding);
    }

    private static long[] told(CalledNumbers x) {
        long[] told = new long[TOLD.length];
        told[0] = x.finding();
        for (int f = 1; f <= 5; f++) {
            told[f] = x.findings(f);
        }
        told[6] = x.asked();
        told[7] = x.upper();
        told[8] = x.lower();
        told[9] = x.digest();
        return told;
    }

    /** That a call answers so, and changes nothing of what is told but a finding. */
    private static void answersAside(String what, CalledNumbers x, IntSupplier call, int want, int finding) {
        long[] before = told(x);
        due(what, call.getAsInt(), want);
        if (finding != 0) {
            before[0] = finding;
            before[finding]++;
        }
        long[] after = told(x);
        for (int k = 0; k < TOLD.length; k++) {
            due(what + ", " + TOLD[k] + " behind it", after[k], before[k]);
        }
    }

    /** That a call is refused (or NONE), and that nothing changes by it. */
    static void stays(String what, CalledNumbers x, int want, IntSupplier call) {
        answersAside(what, x, call, want, 0);
    }

    static void bad(String what, CalledNumbers x, IntSupplier call) {
        stays(what, x, CalledNumbers.BAD, call);
    }

    /** That a call is refused by a finding, and that nothing changes but the findings. */
    static void finds(String what, CalledNumbers x, int finding, IntSupplier call) {
        answersAside(what, x, call, CalledNumbers.FINDING, finding);
    }

    /** Numbers above most: the next one, one that a shift takes for another one, the greatest. */
    static int[] above(int most) {
        return new int[] {most + 1, most + 32, Integer.MAX_VALUE};
    }

    static int[] below(int least) {
        return new int[] {least - 1, least - 32, Integer.MIN_VALUE};
    }

    static int[] outside(int least, int most) {
        int[] all = java.util.Arrays.copyOf(below(least), 6);
        System.arraycopy(above(most), 0, all, 3, 3);
        return all;
    }

    /** Writes a text, made anew. */
    static void write(CalledNumbers x, int t, String text) {
        x.text(t, text.length());
        for (int i = 0; i < text.length(); i++) {
            x.put(t, i, text.charAt(i));
        }
    }

    /** Makes a row of these numbers, anew. */
    static void fill(CalledNumbers x, int r, int... numbers) {
        x.row(r, numbers.length);
        for (int i = 0; i < numbers.length; i++) {
            x.lay(r, i, numbers[i]);
        }
    }

    /** A new object with a hall by this text, which has to be without a fault. */
    static CalledNumbers hallOf(String text) {
        CalledNumbers x = new CalledNumbers();
        write(x, 3, text);
        holds("hall by '" + text + "'", x.hall(3) > 0);
        return x;
    }

    /** That a row is there with just these numbers; asked() and findings change by it. */
    static void rowIs(String what, CalledNumbers x, int r, int... numbers) {
        for (int i = 0; i < numbers.length; i++) {
            told(what + ", place " + i, x, x.at(r, i), numbers[i]);
        }
        refused(what + ", its end", x, x.at(r, numbers.length), 2);
    }

    /** Bits of a set of numbers. */
    static int bits(int... numbers) {
        int set = 0;
        for (int number : numbers) {
            set |= 1 << number;
        }
        return set;
    }

    static void end() {
        System.out.println(looked + " answers looked at, " + wrong + " wrong");
        if (looked == 0 || wrong != 0) {
            System.exit(1);
        }
    }
}
