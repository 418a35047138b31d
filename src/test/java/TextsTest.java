/** Promises 8 to 11: text, put, fault, hall. */
final class TextsTest {
    private static final int NOTHING = 1, BEYOND = 2, SIZE = 5;
    private static final int[] NO_TEXTS = {-1, 4, Integer.MIN_VALUE, Integer.MAX_VALUE};
    private static final String CARD = "010203040506";

    public static void main(String[] args) {
        text();
        put();
        faultless();
        faults();
        ends();
        faultRefused();
        hall();
        hallAnew();
        hallRefused();
        Checks.end();
    }

    private static void text() {
        CalledNumbers x = new CalledNumbers();
        Checks.due("text(0, 0)", x.text(0, 0), 0);
        Checks.due("text(3, 60)", x.text(3, 60), 60);
        Checks.due("text(3, 61)", x.text(3, 61), CalledNumbers.BAD);
        Checks.refused("text(3, -1)", x, x.text(3, -1), SIZE);
        Checks.refused("text(3, least)", x, x.text(3, Integer.MIN_VALUE), SIZE);
        for (int t : NO_TEXTS) {
            Checks.due("text(" + t + ", 1)", x.text(t, 1), CalledNumbers.BAD);
            Checks.due("text(" + t + ", -1)", x.text(t, -1), CalledNumbers.BAD);
        }
        Checks.due("put(3, 59, 65)", x.put(3, 59, 65), 1032);
        Checks.due("text(3, 60), anew", x.text(3, 60), 60);
        Checks.due("put(3, 59, 66), anew", x.put(3, 59, 66), 1032);
        Checks.due("count(10)", x.count(10), 2);
    }

    private static void put() {
        CalledNumbers x = new CalledNumbers();
        x.text(1, 2);
        Checks.due("put(1, 0, 65)", x.put(1, 0, 65), 1032);
        Checks.due("put(1, 0, 255)", x.put(1, 0, 255), 1065);
        Checks.due("put(1, 0, 128)", x.put(1, 0, 128), 999);
        Checks.due("put(1, 0, -129)", x.put(1, 0, -129), 872);
        Checks.due("put(1, 0, 256)", x.put(1, 0, 256), 1127);
        Checks.due("put(1, 0, 1)", x.put(1, 0, 1), 1000);
        for (int i : new int[] {-1, 2, 60, Integer.MIN_VALUE, Integer.MAX_VALUE}) {
            Checks.refused("put(1, " + i + ", 1)", x, x.put(1, i, 1), BEYOND);
        }
        Checks.refused("put(0, 9, 1)", x, x.put(0, 9, 1), NOTHING);
        for (int t : NO_TEXTS) {
            Checks.due("put(" + t + ", 0, 1)", x.put(t, 0, 1), CalledNumbers.BAD);
        }
        Checks.due("asked() behind put", x.asked(), 0);
    }

    private static void faultOf(String text, int want) {
        CalledNumbers x = new CalledNumbers();
        Checks.write(x, 0, text);
        Checks.due("fault of '" + text + "'", x.fault(0), want);
        Checks.due("hall by '" + text + "'", x.hall(0) > 0 ? 1 : 0, want == CalledNumbers.NONE ? 1 : 0);
    }

    private static void faultless() {
        int none = CalledNumbers.NONE;
        for (String letter : new String[] {"p", "w", "d", "h", "l", "s"}) {
            faultOf(letter + CARD, none);
        }
        faultOf("   p" + CARD + "   ", none);
        faultOf("p" + CARD + "w" + CARD, none);
        faultOf("p" + CARD + "  d" + CARD + " h" + CARD + " l" + CARD, none);
        faultOf("s121110090807", none);
        faultOf("p" + CARD + "p" + CARD + "p" + CARD + "p" + CARD + "        ", none);
    }

    private static void faults() {
        faultOf("x" + CARD, 0);
        faultOf("  P" + CARD, 2);
        faultOf("p" + CARD + "q", 13);
        faultOf("p " + CARD, 1);
        faultOf("p01 0203040506", 3);
        faultOf("p0 10203040506", 2);
        faultOf("p01a203040506", 3);
        faultOf("p010b03040506", 4);
        faultOf("p130203040506", 1);
        faultOf("p000203040506", 1);
        faultOf("p010299040506", 5);
        faultOf("p010203040501", 11);
        faultOf("p010103040506", 3);
        faultOf("p0102030405061", 13);
        faultOf("p" + CARD + "p" + CARD + "p" + CARD + "p" + CARD + "p", 52);
        faultOf("p" + CARD + "p" + CARD + "p" + CARD + "p" + CARD + "  p", 54);
        faultOf("p" + CARD + "p" + CARD + "p" + CARD + "p" + CARD + "  ?", 54);
        faultOf((char) 240 + CARD, 0);
        faultOf("p/10203040506", 1);
        faultOf("p:10203040506", 1);
    }

    private static void ends() {
        faultOf("", 0);
        faultOf("     ", 5);
        faultOf("p", 1);
        faultOf("p0", 2);
        faultOf("p01", 3);
        faultOf("p01020304050", 12);
        faultOf("p0102030405", 11);
        faultOf("p" + CARD + " w", 15);
        faultOf("p" + CARD + " w12", 17);
        faultOf("p" + CARD + "p" + CARD + "p" + CARD + " ".repeat(16) + "p0102", 60);
        faultOf("p" + CARD + "p" + CARD + "p" + CARD + " ".repeat(15) + "p01020", 60);
    }

    private static void faultRefused() {
        CalledNumbers x = new CalledNumbers();
        Checks.refused("fault(2)", x, x.fault(2), NOTHING);
        for (int t : NO_TEXTS) {
            Checks.due("fault(" + t + ")", x.fault(t), CalledNumbers.BAD);
        }
    }

    private static void hall() {
        CalledNumbers x = new CalledNumbers();
        Checks.write(x, 2, " h" + CARD + "  s121110090807 ");
        Checks.due("hall(2)", x.hall(2), 2);
        Checks.told("player(0, 0)", x, x.player(0, 0), 3);
        Checks.told("player(1, 0)", x, x.player(1, 0), 5);
        Checks.told("card(1, 0)", x, x.card(1, 0), 12);
        Checks.told("card(1, 5)", x, x.card(1, 5), 7);
        x.put(2, 1, 'x');
        Checks.told("player(0, 0), the text changed", x, x.player(0, 0), 3);
    }

    private static void hallAnew() {
        CalledNumbers x = Checks.hallOf("w" + CARD + "p" + CARD);
        x.call(1);
        x.rub(1, 3);
        x.keep(0);
        x.keep(2);
        Checks.write(x, 0, "l" + CARD);
        Checks.due("hall(0)", x.hall(0), 1);
        int[] counts = {1, 0, 0, Checks.BAG, 0, 0, 0, 1, 0, 0, 2, 0};
        for (int what = 0; what < counts.length; what++) {
            Checks.due("anew, count(" + what + ")", x.count(what), counts[what]);
        }
        Checks.refused("on(0), anew", x, x.on(0), NOTHING);
        Checks.refused("on(2), anew", x, x.on(2), NOTHING);
        Checks.due("player(1, 0), anew", x.player(1, 0), CalledNumbers.BAD);
        Checks.told("player(0, 1), anew", x, x.player(0, 1), 0);
        x.call(1);
        x.call(2);
        x.call(3);
        Checks.due("those who are gone don't win", x.count(5), 0);
        Checks.write(x, 0, "s" + CARD);
        x.hall(0);
        Checks.write(x, 0, "s010207080912");
        x.hall(0);
        Checks.due("another card", x.mark(0, 5), 4);
        x.call(3);
        Checks.told("3 is no more on it", x, x.player(0, 1), 0);
    }

    private static void hallRefused() {
        CalledNumbers x = Checks.hallOf("p" + CARD);
        x.call(2);
        x.keep(1);
        Checks.refused("hall(0)", x, x.hall(0), NOTHING);
        for (int t : NO_TEXTS) {
            Checks.due("hall(" + t + ")", x.hall(t), CalledNumbers.BAD);
        }
        Checks.write(x, 0, "w1211100908");
        long before = x.digest();
        Checks.due("hall(0), a fault", x.hall(0), CalledNumbers.STATE);
        Checks.due("digest() behind a fault", x.digest(), before);
        Checks.told("card(0, 0) behind a fault", x, x.card(0, 0), 1);
        Checks.due("fault(0)", x.fault(0), 11);
        Checks.due("digest() behind fault(0)", x.digest(), before);
    }
}
