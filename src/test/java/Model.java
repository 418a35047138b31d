import java.util.ArrayList;
import java.util.List;
import java.util.TreeMap;

/**
 * The document once more, as plainly as the Java library allows and with nothing of the class:
 * every answer is worked out from the deeds done so far, by lists that are made anew.
 */
final class Model {
    private static final int BAD = -1, FULL = -2, FINDING = -3, STATE = -4, NONE = -9;
    private static final int NOTHING = 1, BEYOND = 2, UNLIKE = 3, NOUGHT = 4, SIZE = 5;

    record Person(char kind, List<Integer> card) {
    }

    /** A call of a number, or (number 0) a place turned by hand. */
    record Deed(int number, int person, int place) {
    }

    /** What has come of some deeds. */
    static final class Scene {
        final List<List<Boolean>> marks = new ArrayList<>();
        final List<Boolean> won = new ArrayList<>();
        final List<Integer> called = new ArrayList<>();

        int marksOf(int i) {
            int marked = 0;
            for (boolean mark : marks.get(i)) {
                marked += mark ? 1 : 0;
            }
            return marked;
        }

        int bitsOf(int i) {
            int bits = 0;
            for (int place = 0; place < 6; place++) {
                bits += marks.get(i).get(place) ? 1 << place : 0;
            }
            return bits;
        }

        int wonBits() {
            int bits = 0;
            for (int i = 0; i < won.size(); i++) {
                bits += won.get(i) ? 1 << i : 0;
            }
            return bits;
        }
    }

    final List<Integer[]> rows = new ArrayList<>();
    final List<byte[]> texts = new ArrayList<>();
    List<Person> people = new ArrayList<>();
    List<Deed> deeds = new ArrayList<>();
    final List<List<Deed>> kept = new ArrayList<>();
    int asked;
    long upper;
    long lower = 1;
    int finding;
    final int[] findings = new int[6];

    Model() {
        for (int k = 0; k < 6; k++) {
            rows.add(null);
        }
        for (int k = 0; k < 4; k++) {
            texts.add(null);
        }
        for (int k = 0; k < 3; k++) {
            kept.add(null);
        }
    }

    private int found(int f) {
        finding = f;
        findings[f]++;
        return FINDING;
    }

    private int tells(int value) {
        asked = value;
        return 1;
    }

    private static boolean within(int v, int least, int most) {
        return v >= least && v <= most;
    }

    private boolean person(int i) {
        return within(i, 0, people.size() - 1);
    }

    // rows, texts

    int row(int r, int n) {
        if (!within(r, 0, 5) || n > 40) {
            return BAD;
        }
        if (n < 0) {
            return found(SIZE);
        }
        Integer[] row = new Integer[n];
        java.util.Arrays.fill(row, 0);
        rows.set(r, row);
        return n;
    }

    int lay(int r, int i, int v) {
        int answer = at(r, i);
        if (answer == 1) {
            rows.get(r)[i] = v;
        }
        return answer;
    }

    int at(int r, int i) {
        if (!within(r, 0, 5)) {
            return BAD;
        }
        if (rows.get(r) == null) {
            return found(NOTHING);
        }
        if (!within(i, 0, rows.get(r).length - 1)) {
            return found(BEYOND);
        }
        return tells(rows.get(r)[i]);
    }

    int tear(int r) {
        if (!within(r, 0, 5)) {
            return BAD;
        }
        if (rows.get(r) == null) {
            return found(NOTHING);
        }
        rows.set(r, null);
        return 1;
    }

    int copy(int r, int i, int to, int j, int n) {
        if (!within(r, 0, 5) || !within(to, 0, 5)) {
            return BAD;
        }
        if (n < 0) {
            return found(SIZE);
        }
        if (rows.get(r) == null || rows.get(to) == null) {
            return found(NOTHING);
        }
        long from = rows.get(r).length;
        long upTo = rows.get(to).length;
        if (i < 0 || j < 0 || 0L + i + n > from || 0L + j + n > upTo) {
            return found(BEYOND);
        }
        Integer[] taken = java.util.Arrays.copyOfRange(rows.get(r), i, i + n);
        for (int k = 0; k < n; k++) {
            rows.get(to)[j + k] = taken[k];
        }
        return 1;
    }

    int mean(int r) {
        if (!within(r, 0, 5)) {
            return BAD;
        }
        if (rows.get(r) == null) {
            return found(NOTHING);
        }
        if (rows.get(r).length == 0) {
            return found(NOUGHT);
        }
        long sum = 0;
        for (int v : rows.get(r)) {
            sum += v;
        }
        return tells((int) (sum / rows.get(r).length));
    }

    int text(int t, int n) {
        if (!within(t, 0, 3) || n > 60) {
            return BAD;
        }
        if (n < 0) {
            return found(SIZE);
        }
        texts.set(t, " ".repeat(n).getBytes(java.nio.charset.StandardCharsets.ISO_8859_1));
        return n;
    }

    int put(int t, int i, int v) {
        if (!within(t, 0, 3)) {
            return BAD;
        }
        if (texts.get(t) == null) {
            return found(NOTHING);
        }
        if (!within(i, 0, texts.get(t).length - 1)) {
            return found(BEYOND);
        }
        int old = texts.get(t)[i];
        texts.get(t)[i] = (byte) v;
        return 1000 + old;
    }

    /** A sign at a time: the fault, or NONE with the people read. */
    private int parse(String text, List<Person> into) {
        int state = 0;
        char kind = ' ';
        List<Integer> card = new ArrayList<>();
        for (int at = 0; at < text.length(); at++) {
            char sign = text.charAt(at);
            if (state == 0) {
                if (sign == ' ') {
                    continue;
                }
                if ("pwdhls".indexOf(sign) < 0 || into.size() == 4) {
                    return at;
                }
                kind = sign;
                card = new ArrayList<>();
                state = 1;
            } else if ("0123456789".indexOf(sign) < 0) {
                return at;
            } else if (state % 2 == 1) {
                state++;
            } else {
                int number = Integer.parseInt(text.substring(at - 1, at + 1));
                if (!within(number, 1, 12) || card.contains(number)) {
                    return at - 1;
                }
                card.add(number);
                state++;
                if (card.size() == 6) {
                    into.add(new Person(kind, card));
                    state = 0;
                }
            }
        }
        return state != 0 || into.isEmpty() ? text.length() : NONE;
    }

    private int parse(int t, List<Person> into) {
        return parse(new String(texts.get(t), java.nio.charset.StandardCharsets.ISO_8859_1), into);
    }

    int fault(int t) {
        if (!within(t, 0, 3)) {
            return BAD;
        }
        return texts.get(t) == null ? found(NOTHING) : parse(t, new ArrayList<>());
    }

    int hall(int t) {
        if (!within(t, 0, 3)) {
            return BAD;
        }
        if (texts.get(t) == null) {
            return found(NOTHING);
        }
        List<Person> read = new ArrayList<>();
        if (parse(t, read) != NONE) {
            return STATE;
        }
        people = read;
        deeds = new ArrayList<>();
        java.util.Collections.fill(kept, null);
        return people.size();
    }

    // what people do

    private static List<Integer> heard(char kind, int number, int ahead, int call) {
        boolean deafNow = (kind == 'd' || kind == 's') && call % 3 == 2;
        if (deafNow) {
            return List.of();
        }
        if (kind == 'l') {
            return ahead == 0 ? List.of() : List.of(ahead);
        }
        return kind == 's' ? List.of(number, number == 12 ? 1 : number + 1) : List.of(number);
    }

    private static boolean has(char kind, List<Boolean> marks) {
        int above = 0;
        int below = 0;
        for (int place = 0; place < 3; place++) {
            above += marks.get(place) ? 1 : 0;
            below += marks.get(place + 3) ? 1 : 0;
        }
        if (kind == 'w' || kind == 'l') {
            return above == 3 && below == 3;
        }
        return above == 3 || below == 3 || (kind == 'h' && above >= 2 && below >= 2);
    }

    /** By trying all sets of marks more. */
    private static int lacks(char kind, List<Boolean> marks) {
        int least = 7;
        for (int more = 0; more < 64; more++) {
            List<Boolean> then = new ArrayList<>(marks);
            int added = 0;
            for (int place = 0; place < 6; place++) {
                if ((more >> place & 1) == 1 && !then.get(place)) {
                    then.set(place, true);
                    added++;
                }
            }
            if (has(kind, then)) {
                least = Math.min(least, added);
            }
        }
        return least;
    }

    private Scene scene(List<Deed> done) {
        return scene(people, done);
    }

    private static Scene scene(List<Person> people, List<Deed> done) {
        Scene scene = new Scene();
        for (int i = 0; i < people.size(); i++) {
            scene.marks.add(new ArrayList<>(java.util.Collections.nCopies(6, false)));
            scene.won.add(false);
        }
        for (Deed deed : done) {
            if (deed.number() == 0) {
                List<Boolean> marks = scene.marks.get(deed.person());
                marks.set(deed.place(), !marks.get(deed.place()));
            } else {
                ring(people, scene, deed.number());
            }
        }
        return scene;
    }

    private static void ring(List<Person> people, Scene scene, int number) {
        int call = scene.called.size();
        int ahead = call == 0 ? 0 : scene.called.get(call - 1);
        for (int i = 0; i < people.size(); i++) {
            Person person = people.get(i);
            for (int n : heard(person.kind(), number, ahead, call)) {
                if (person.card().contains(n)) {
                    scene.marks.get(i).set(person.card().indexOf(n), true);
                }
            }
            if (has(person.kind(), scene.marks.get(i))) {
                scene.won.set(i, true);
            }
        }
        scene.called.add(number);
    }

    private Scene copyOf(Scene scene) {
        Scene other = new Scene();
        for (List<Boolean> marks : scene.marks) {
            other.marks.add(new ArrayList<>(marks));
        }
        other.won.addAll(scene.won);
        other.called.addAll(scene.called);
        return other;
    }

    private Scene then(Scene scene, int number) {
        Scene next = copyOf(scene);
        ring(people, next, number);
        return next;
    }

    private Scene now() {
        return scene(deeds);
    }

    private static List<Integer> bag(Scene scene) {
        List<Integer> left = new ArrayList<>();
        for (int number = 1; number <= 12; number++) {
            if (!scene.called.contains(number)) {
                left.add(number);
            }
        }
        return left;
    }

    private static int bits(List<Integer> numbers) {
        int set = 0;
        for (int number : numbers) {
            set |= 1 << number;
        }
        return set;
    }

    private static int kindNumber(char kind) {
        return "pwdhls".indexOf(kind);
    }

    private int ofPerson(Scene scene, int i, int what) {
        char kind = people.get(i).kind();
        return switch (what) {
            case 0 -> kindNumber(kind);
            case 1 -> scene.bitsOf(i);
            case 2 -> scene.won.get(i) ? 1 : 0;
            case 3 -> has(kind, scene.marks.get(i)) ? 1 : 0;
            default -> lacks(kind, scene.marks.get(i));
        };
    }

    int player(int i, int what) {
        return person(i) && within(what, 0, 4) ? tells(ofPerson(now(), i, what)) : BAD;
    }

    int card(int i, int place) {
        return person(i) && within(place, 0, 5) ? tells(people.get(i).card().get(place)) : BAD;
    }

    int mark(int i, int kind) {
        if (!person(i) || !within(kind, 1, 5)) {
            return BAD;
        }
        Scene scene = now();
        char own = people.get(i).kind();
        List<Integer> card = people.get(i).card();
        int calls = scene.called.size();
        if (kind == 1 && (own == 'w' || own == 'l')) {
            return 6 - scene.marksOf(i);
        }
        if (kind == 2 && (own == 'd' || own == 's')) {
            int more = 0;
            while (!heard('d', 1, 0, calls + more).isEmpty()) {
                more++;
            }
            return more;
        }
        if (kind == 3 && own == 'h') {
            int above = Integer.bitCount(scene.bitsOf(i) % 8);
            int below = Integer.bitCount(scene.bitsOf(i) / 8);
            return (above > 1 ? 1 : 0) + (below > 1 ? 1 : 0);
        }
        if (kind == 4 && own == 'l') {
            return calls == 0 ? 0 : scene.called.get(calls - 1);
        }
        if (kind == 5 && own == 's') {
            return (int) card.stream().filter(n -> card.contains(n == 12 ? 1 : n + 1)).count();
        }
        return found(UNLIKE);
    }

    // deeds

    int call(int number) {
        if (!within(number, 1, 12)) {
            return BAD;
        }
        Scene before = now();
        if (people.isEmpty() || before.called.contains(number)) {
            return STATE;
        }
        if (deeds.size() == 40) {
            return FULL;
        }
        deeds.add(new Deed(number, 0, 0));
        return now().wonBits() & ~before.wonBits();
    }

    int rub(int i, int place) {
        if (!person(i) || !within(place, 0, 5)) {
            return BAD;
        }
        if (deeds.size() == 40) {
            return FULL;
        }
        deeds.add(new Deed(0, i, place));
        return now().bitsOf(i);
    }

    int undo(int n) {
        if (!within(n, 0, deeds.size())) {
            return BAD;
        }
        int undone = deeds.size() - n;
        deeds = new ArrayList<>(deeds.subList(0, n));
        return undone;
    }

    int keep(int k) {
        if (!within(k, 0, 2)) {
            return BAD;
        }
        if (people.isEmpty()) {
            return STATE;
        }
        kept.set(k, List.copyOf(deeds));
        return deeds.size();
    }

    int on(int k) {
        if (!within(k, 0, 2)) {
            return BAD;
        }
        if (kept.get(k) == null) {
            return found(NOTHING);
        }
        deeds = new ArrayList<>(kept.get(k));
        return deeds.size();
    }

    // what comes

    int hears(int i, int number, int ahead, int call) {
        boolean told = person(i) && within(number, 1, 12) && within(ahead, 0, 12) && within(call, 0, 99);
        return told && number != ahead ? bits(heard(people.get(i).kind(), number, ahead, call)) : BAD;
    }

    int run(int r) {
        if (people.isEmpty()) {
            return STATE;
        }
        if (!within(r, 0, 5)) {
            return BAD;
        }
        if (rows.get(r) == null) {
            return found(NOTHING);
        }
        if (rows.get(r).length > 12) {
            return found(SIZE);
        }
        for (int number : rows.get(r)) {
            if (!within(number, 1, 12)) {
                return found(UNLIKE);
            }
        }
        Scene scene = now();
        int called = 0;
        for (int number : rows.get(r)) {
            if (scene.called.contains(number)) {
                break;
            }
            ring(people, scene, number);
            called++;
        }
        tells(called);
        return scene.wonBits();
    }

    int safe() {
        if (people.isEmpty()) {
            return STATE;
        }
        Scene scene = now();
        TreeMap<Integer, Integer> byWinners = new TreeMap<>();
        for (int number : bag(scene)) {
            int winners = Integer.bitCount(then(scene, number).wonBits() & ~scene.wonBits());
            byWinners.merge(winners, 1 << number, Integer::sum);
        }
        asked = byWinners.isEmpty() ? 0 : byWinners.lastEntry().getValue();
        return byWinners.getOrDefault(0, 0);
    }

    /** All ways to call n numbers more (or as many as there are), the first ones ahead. */
    private List<List<Integer>> ways(Scene scene, int n) {
        List<List<Integer>> ways = new ArrayList<>();
        List<Integer> left = bag(scene);
        ways.add(List.of());
        for (int k = 0; k < Math.min(n, left.size()); k++) {
            List<List<Integer>> longer = new ArrayList<>();
            for (List<Integer> way : ways) {
                for (int number : left) {
                    if (!way.contains(number)) {
                        List<Integer> more = new ArrayList<>(way);
                        more.add(number);
                        longer.add(more);
                    }
                }
            }
            ways = longer;
        }
        return ways;
    }

    private Scene behind(Scene scene, List<Integer> way) {
        Scene end = copyOf(scene);
        for (int number : way) {
            ring(people, end, number);
        }
        return end;
    }

    private void comes(int r, List<Integer> way) {
        rows.set(r, way.toArray(new Integer[0]));
    }

    int fewest(int i, int r) {
        if (!person(i) || !within(r, 0, 5)) {
            return BAD;
        }
        Scene scene = now();
        for (int n = 0; n <= 4; n++) {
            for (List<Integer> way : ways(scene, n)) {
                if (way.size() == n && behind(scene, way).won.get(i)) {
                    comes(r, way);
                    return n;
                }
            }
        }
        return NONE;
    }

    int most(int n, int r) {
        if (!within(n, 0, 4) || !within(r, 0, 5)) {
            return BAD;
        }
        if (people.isEmpty()) {
            return STATE;
        }
        Scene scene = now();
        int most = -1;
        List<Integer> first = List.of();
        for (List<Integer> way : ways(scene, n)) {
            int winners = Integer.bitCount(behind(scene, way).wonBits());
            if (winners > most) {
                most = winners;
                first = way;
            }
        }
        comes(r, first);
        return most;
    }

    // which number, which kind

    int which(int i, int places) {
        if (!person(i) || !within(places, 0, 63)) {
            return BAD;
        }
        Scene scene = now();
        List<Integer> fitting = new ArrayList<>();
        for (int number : bag(scene)) {
            if (then(scene, number).bitsOf(i) == places) {
                fitting.add(number);
            }
        }
        return bits(fitting);
    }

    private int refusedPairs(int i, int r) {
        if (!person(i) || !within(r, 0, 5)) {
            return BAD;
        }
        if (rows.get(r) == null) {
            return found(NOTHING);
        }
        if (rows.get(r).length % 2 == 1 || rows.get(r).length > 16) {
            return found(SIZE);
        }
        for (int k = 0; k < rows.get(r).length; k++) {
            if (k % 2 == 0 ? !within(rows.get(r)[k], 1, 12) : !within(rows.get(r)[k], 0, 6)) {
                return found(UNLIKE);
            }
        }
        return 0;
    }

    /** The hall as it is, but one is of another kind from now on. */
    private Model asIf(int i, char kind) {
        Model other = new Model();
        other.people = new ArrayList<>(people);
        other.people.set(i, new Person(kind, people.get(i).card()));
        return other;
    }

    private List<Character> kindsLeft(int i, int r) {
        List<Character> left = new ArrayList<>();
        for (char kind : "pwdhls".toCharArray()) {
            Scene scene = now();
            boolean fits = true;
            for (int k = 0; k < rows.get(r).length && fits; k += 2) {
                int number = rows.get(r)[k];
                fits = !scene.called.contains(number);
                if (fits) {
                    scene = asIf(i, kind).then(scene, number);
                    fits = scene.marksOf(i) == rows.get(r)[k + 1];
                }
            }
            if (fits) {
                left.add(kind);
            }
        }
        return left;
    }

    int kinds(int i, int r) {
        int refused = refusedPairs(i, r);
        if (refused != 0) {
            return refused;
        }
        int set = 0;
        for (char kind : kindsLeft(i, r)) {
            set |= 1 << kindNumber(kind);
        }
        return set;
    }

    int next(int i, int r) {
        int refused = refusedPairs(i, r);
        if (refused != 0) {
            return refused;
        }
        Scene scene = now();
        int best = NONE;
        int least = 7;
        List<Character> left = kindsLeft(i, r);
        for (int number : left.isEmpty() ? List.<Integer>of() : bag(scene)) {
            TreeMap<Integer, Integer> parts = new TreeMap<>();
            for (char kind : left) {
                parts.merge(asIf(i, kind).then(scene, number).marksOf(i), 1, Integer::sum);
            }
            int greatest = java.util.Collections.max(parts.values());
            if (greatest < least) {
                least = greatest;
                best = number;
            }
        }
        if (best != NONE) {
            asked = least;
        }
        return best;
    }

    // by turns, chances, lots

    int duel(int i, int j, int n) {
        if (!person(i) || !person(j) || i == j || !within(n, 0, 2)) {
            return BAD;
        }
        return tells(turn(now(), i, j, 2 * n, 1));
    }

    private int turn(Scene scene, int i, int j, int left, int sign) {
        List<Integer> bag = bag(scene);
        if (left == 0 || bag.isEmpty()) {
            int won = (scene.won.get(i) ? 10 : 0) - (scene.won.get(j) ? 10 : 0);
            return scene.marksOf(i) - scene.marksOf(j) + won;
        }
        List<Integer> worths = new ArrayList<>();
        for (int number : bag) {
            worths.add(turn(then(scene, number), i, j, left - 1, -sign));
        }
        return sign > 0 ? java.util.Collections.max(worths) : java.util.Collections.min(worths);
    }

    private int share(long sum, long among) {
        long by = java.math.BigInteger.valueOf(sum).gcd(java.math.BigInteger.valueOf(among)).longValue();
        upper = sum / by;
        lower = among / by;
        return 1;
    }

    int odds(int i, int n) {
        if (!person(i) || !within(n, 0, 3)) {
            return BAD;
        }
        Scene scene = now();
        List<List<Integer>> ways = ways(scene, n);
        return share(ways.stream().filter(way -> behind(scene, way).won.get(i)).count(), ways.size());
    }

    int mid(int i, int n) {
        if (!person(i) || !within(n, 0, 3)) {
            return BAD;
        }
        Scene scene = now();
        List<List<Integer>> ways = ways(scene, n);
        return share(ways.stream().mapToLong(way -> behind(scene, way).marksOf(i)).sum(), ways.size());
    }

    int lots(int n, int seed) {
        if (!within(n, 1, 20) || !within(seed, 1, 2147483646)) {
            return BAD;
        }
        if (people.isEmpty()) {
            return STATE;
        }
        if (deeds.size() + n > 40) {
            return FULL;
        }
        long it = seed;
        for (int k = 0; k < n; k++) {
            it = it * 48271 % 2147483647L;
            List<Integer> bag = bag(now());
            if (it / 8 % 8 == 7 || bag.isEmpty()) {
                rub((int) (it % people.size()), (int) (it / 64 % 6));
            } else {
                long number = it % 12 + 1;
                while (!bag.contains((int) number)) {
                    number = number == 12 ? 1 : number + 1;
                }
                call((int) number);
            }
        }
        return now().wonBits();
    }

    // what is told

    int count(int what) {
        Scene scene = now();
        int calls = scene.called.size();
        int all = 0;
        for (int i = 0; i < people.size(); i++) {
            all += scene.marksOf(i);
        }
        return switch (what) {
            case 0 -> people.size();
            case 1 -> calls;
            case 2 -> deeds.size();
            case 3 -> people.isEmpty() ? 0 : bits(bag(scene));
            case 4 -> calls == 0 ? 0 : scene.called.get(calls - 1);
            case 5 -> scene.wonBits();
            case 6 -> all;
            case 7 -> (int) people.stream().filter(p -> p.kind() == 'w' || p.kind() == 'l').count();
            case 8 -> (int) people.stream().filter(p -> p.kind() == 'd' || p.kind() == 's').count();
            case 9 -> (int) rows.stream().filter(row -> row != null).count();
            case 10 -> (int) texts.stream().filter(text -> text != null).count();
            case 11 -> (int) kept.stream().filter(hall -> hall != null).count();
            default -> BAD;
        };
    }

    int findings(int f) {
        return within(f, 1, 5) ? findings[f] : BAD;
    }

    long digest() {
        List<Long> values = new ArrayList<>();
        Scene scene = now();
        for (int what = 0; what <= 11; what++) {
            values.add((long) count(what));
        }
        for (int i = 0; i < people.size(); i++) {
            for (int what = 0; what <= 4; what++) {
                values.add((long) ofPerson(scene, i, what));
            }
            people.get(i).card().forEach(number -> values.add((long) number));
        }
        kept.forEach(hall -> values.add(hall == null ? -1L : hall.size()));
        for (Integer[] row : rows) {
            values.add(row == null ? -1L : row.length);
            for (int k = 0; row != null && k < row.length; k++) {
                values.add((long) row[k]);
            }
        }
        for (byte[] text : texts) {
            values.add(text == null ? -1L : text.length);
            for (int k = 0; text != null && k < text.length; k++) {
                values.add((long) text[k]);
            }
        }
        long h = 17;
        for (long v : values) {
            h = 31 * h + v;
        }
        return h;
    }
}
