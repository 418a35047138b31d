import java.util.Random;

/** All promises: runs of calls by chance (of told seeds) on the class and on the model. */
final class RandomRunsTest {
    private static final int[] ODD = {
        Integer.MIN_VALUE, Integer.MIN_VALUE + 1, -33, -2, -1, 0, 1, 5, 6, 7, 12, 13, 32, 33, 40, 41, 60,
        61, 63, 64, 99, 100, Integer.MAX_VALUE - 1, Integer.MAX_VALUE
    };

    private final Random random;
    private final CalledNumbers x = new CalledNumbers();
    private final Model model = new Model();
    private final boolean wild;
    private String call = "";

    private RandomRunsTest(long seed) {
        random = new Random(seed);
        wild = seed % 5 == 0;
    }

    public static void main(String[] args) {
        for (long seed = 1; seed <= 600; seed++) {
            RandomRunsTest run = new RandomRunsTest(seed);
            for (int k = 0; k < 50; k++) {
                run.step(seed, k);
            }
        }
        Checks.end();
    }

    /** Mostly from least to most, now and then a bit beyond, or far off. */
    private int some(int least, int most) {
        int dice = random.nextInt(wild ? 8 : 40);
        if (dice == 0) {
            return ODD[random.nextInt(ODD.length)];
        }
        if (dice == 1) {
            return random.nextBoolean() ? least - 1 : most + 1;
        }
        return least + random.nextInt(most - least + 1);
    }

    private void step(long seed, int k) {
        if (k == 0 && !wild || random.nextInt(25) == 0) {
            writeHall();
        }
        int op = random.nextInt(34);
        long[] answers = op < 17 ? early(op) : late(op);
        String what = "seed " + seed + ", call " + k + ": " + call;
        Checks.due(what, answers[0], answers[1]);
        Checks.due(what + ", asked()", x.asked(), model.asked);
        Checks.due(what + ", upper()", x.upper(), model.upper);
        Checks.due(what + ", lower()", x.lower(), model.lower);
        Checks.due(what + ", finding()", x.finding(), model.finding);
        int f = some(1, 5);
        Checks.due(what + ", findings(" + f + ")", x.findings(f), model.findings(f));
        Checks.due(what + ", digest()", x.digest(), model.digest());
    }

    /** A hall that is mostly without a fault, by a text of chance. */
    private void writeHall() {
        StringBuilder text = new StringBuilder();
        int people = 1 + random.nextInt(4);
        for (int i = 0; i < people; i++) {
            text.append(" ".repeat(random.nextInt(3)));
            text.append("pwdhls".charAt(random.nextInt(6)));
            java.util.List<Integer> numbers = new java.util.ArrayList<>();
            for (int number = 1; number <= 12; number++) {
                numbers.add(number);
            }
            java.util.Collections.shuffle(numbers, random);
            for (int place = 0; place < 6; place++) {
                text.append(String.format("%02d", numbers.get(place)));
            }
        }
        if (random.nextInt(6) == 0) {
            text.setCharAt(random.nextInt(text.length()), ("pz 0139" + (char) 200).charAt(random.nextInt(8)));
        }
        if (random.nextInt(6) == 0) {
            text.setLength(random.nextInt(text.length() + 1));
        }
        int t = random.nextInt(4);
        String cut = text.substring(0, Math.min(60, text.length()));
        Checks.write(x, t, cut);
        model.text(t, cut.length());
        for (int i = 0; i < cut.length(); i++) {
            model.put(t, i, cut.charAt(i));
        }
        Checks.due("fault of '" + cut + "'", x.fault(t), model.fault(t));
        Checks.due("hall by '" + cut + "'", x.hall(t), model.hall(t));
    }

    private void told(String name, int... given) {
        call = name + java.util.Arrays.toString(given);
    }

    private long[] both(long got, long want) {
        return new long[] {got, want};
    }

    /** A row of numbers, or of pairs of a number and how many places are marked. */
    private void fillRow(int r, boolean pairs) {
        int n = random.nextInt(pairs ? 4 : 7) * (pairs ? 2 : 1);
        if (random.nextInt(12) == 0) {
            n = random.nextInt(20);
        }
        x.row(r, n);
        model.row(r, n);
        for (int i = 0; i < n; i++) {
            boolean marks = pairs && i % 2 == 1;
            int v = marks ? likelyMarks(i / 2) : some(1, 12);
            x.lay(r, i, v);
            model.lay(r, i, v);
        }
    }

    private int likelyMarks(int pair) {
        int now = model.people.isEmpty() ? 0 : Math.min(6, model.count(6) / model.people.size());
        return random.nextInt(15) == 0 ? some(0, 6) : Math.min(6, now + random.nextInt(2 + pair));
    }

    private long[] early(int op) {
        int a = some(0, 5);
        int b = some(0, 12);
        int c = some(0, 12);
        int d = some(0, 12);
        int n = some(0, 10);
        switch (op) {
            case 0:
                b = some(0, 40);
                told("row", a, b);
                return both(x.row(a, b), model.row(a, b));
            case 1:
                c = random.nextInt();
                told("lay", a, b, c);
                return both(x.lay(a, b, c), model.lay(a, b, c));
            case 2:
                told("at", a, b);
                return both(x.at(a, b), model.at(a, b));
            case 3:
                told("tear", a);
                return both(x.tear(a), model.tear(a));
            case 4:
                c = some(0, 5);
                told("copy", a, b, c, d, n);
                return both(x.copy(a, b, c, d, n), model.copy(a, b, c, d, n));
            case 5:
                told("mean", a);
                return both(x.mean(a), model.mean(a));
            case 6:
                a = some(0, 3);
                b = some(0, 60);
                told("text", a, b);
                return both(x.text(a, b), model.text(a, b));
            case 7:
                a = some(0, 3);
                b = some(0, 30);
                c = random.nextInt(1000) - 400;
                told("put", a, b, c);
                return both(x.put(a, b, c), model.put(a, b, c));
            case 8:
                a = some(0, 3);
                told("fault", a);
                return both(x.fault(a), model.fault(a));
            case 9:
                a = some(0, 3);
                told("hall", a);
                return both(x.hall(a), model.hall(a));
            case 10:
                a = some(0, 3);
                b = some(0, 4);
                told("player", a, b);
                return both(x.player(a, b), model.player(a, b));
            case 11:
                a = some(0, 3);
                b = some(0, 5);
                told("card", a, b);
                return both(x.card(a, b), model.card(a, b));
            case 12:
                a = some(0, 3);
                b = some(1, 5);
                told("mark", a, b);
                return both(x.mark(a, b), model.mark(a, b));
            case 13:
            case 14:
                a = some(1, 12);
                told("call", a);
                return both(x.call(a), model.call(a));
            case 15:
                a = some(0, 3);
                b = some(0, 5);
                told("rub", a, b);
                return both(x.rub(a, b), model.rub(a, b));
            default:
                a = some(0, model.deeds.size());
                told("undo", a);
                return both(x.undo(a), model.undo(a));
        }
    }

    private long[] late(int op) {
        int i = some(0, Math.max(0, model.people.size() - 1));
        int r = some(0, 5);
        int n = some(0, 3);
        switch (op) {
            case 17:
                n = some(0, 2);
                told("keep", n);
                return both(x.keep(n), model.keep(n));
            case 18:
                n = some(0, 2);
                told("on", n);
                return both(x.on(n), model.on(n));
            case 19:
                int number = some(1, 12);
                int ahead = some(0, 12);
                int call = some(0, 99);
                told("hears", i, number, ahead, call);
                return both(x.hears(i, number, ahead, call), model.hears(i, number, ahead, call));
            case 20:
            case 21:
                fillRow(2, false);
                r = random.nextInt(6) == 0 ? r : 2;
                told("run", r);
                return both(x.run(r), model.run(r));
            case 22:
                told("safe");
                return both(x.safe(), model.safe());
            case 23:
                told("fewest", i, r);
                return both(x.fewest(i, r), model.fewest(i, r));
            case 24:
                n = random.nextInt(20) == 0 ? 4 : n;
                told("most", n, r);
                return both(x.most(n, r), model.most(n, r));
            case 25:
                int set = some(0, 63);
                int places = random.nextBoolean() || model.people.isEmpty() ? set : likelyPlaces();
                told("which", i, places);
                return both(x.which(i, places), model.which(i, places));
            case 26:
            case 27:
                fillRow(3, true);
                r = random.nextInt(6) == 0 ? r : 3;
                told("kinds", i, r);
                return both(x.kinds(i, r), model.kinds(i, r));
            case 28:
            case 29:
                fillRow(3, true);
                r = random.nextInt(6) == 0 ? r : 3;
                told("next", i, r);
                return both(x.next(i, r), model.next(i, r));
            case 30:
                int j = some(0, Math.max(0, model.people.size() - 1));
                n = random.nextInt(4) == 0 ? some(0, 2) : some(0, 1);
                told("duel", i, j, n);
                return both(x.duel(i, j, n), model.duel(i, j, n));
            case 31:
                told("odds", i, n);
                return both(x.odds(i, n), model.odds(i, n));
            case 32:
                told("mid", i, n);
                return both(x.mid(i, n), model.mid(i, n));
            default:
                n = some(1, 20);
                int seed = random.nextInt(9) == 0 ? some(0, 3) : random.nextInt();
                told("lots", n, seed);
                return both(x.lots(n, seed), model.lots(n, seed));
        }
    }

    /** The places of a player that are marked, and perhaps one more. */
    private int likelyPlaces() {
        int i = random.nextInt(model.people.size());
        x.player(i, 1);
        model.player(i, 1);
        return model.asked | (random.nextBoolean() ? 1 << random.nextInt(6) : 0);
    }
}
