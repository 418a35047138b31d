import java.util.Arrays;

/**
 * Numbers called out in a hall: twelve numbers in a bag, players of six kinds with cards of two
 * lines of three. The words in capitals are those of the document.
 */
public final class CalledNumbers {
    public static final int BAD = -1, FULL = -2, FINDING = -3, STATE = -4, SPENT = -6, NONE = -9;

    /** What a check answers if nothing is refused. */
    private static final int FINE = 0;
    private static final int NOTHING = 1, BEYOND = 2, UNLIKE = 3, NOUGHT = 4, SIZE = 5;

    private static final int ROWS = 6, ROW_MOST = 40, TEXTS = 4, TEXT_MOST = 60;
    private static final int MISSING = -1;
    private static final int BLANK = 32;

    private static final int PLAYERS_MOST = 4, PLACES = 6, NUMBERS = 12, KINDS = 6;
    private static final int WHOLE = 1, DEAF = 2, HASTY = 3, LATE = 4, SLY = 5;
    private static final int ALL_PLACES = 63, UPPER_LINE = 7, LOWER_LINE = 56;
    private static final int FULL_BAG = 0x1FFE;
    private static final int EVERYBODY = 15;
    private static final int[] LETTERS = {112, 119, 100, 104, 108, 115};

    private static final int DEEDS_MOST = 40, KEPT = 3;
    /** A DEED below this is the NUMBER that was called, from it on a PLACE that was rubbed. */
    private static final int FIRST_RUB = 16;

    private static final int AHEAD_MOST = 4, DUEL_MOST = 2, LOT_CALLS_MOST = 3;
    private static final int RUN_MOST = 12, PAIRS_MOST = 8, CALL_NUMBER_MOST = 99;
    private static final int LOTS_MOST = 20;
    private static final long LOT_FACTOR = 48271L, LOT_MODULUS = 2147483647L;
    /** No worth in a duel is as far from 0 as the bound. */
    private static final int WON_WORTH = 10, WORTH_BOUND = 100;

    private final int[][] rows = new int[ROWS][ROW_MOST];
    private final int[] rowSizes = new int[ROWS];
    private final byte[][] texts = new byte[TEXTS][TEXT_MOST];
    private final int[] textSizes = new int[TEXTS];

    private final Reader reader = new Reader();
    private final Seats seats = new Seats();
    private final Hall hall = new Hall(seats);
    private final Deeds deeds = new Deeds();
    private final Deeds[] kept = new Deeds[KEPT];

    /** HALLS as they would be behind 0, 1, .. CALLS more, and the NUMBERS of those CALLS. */
    private final Hall[] aside = new Hall[AHEAD_MOST + 1];
    private final int[] trail = new int[AHEAD_MOST];
    private int mostWinners;
    /** How many KINDS would have 0, 1, .. 6 PLACES MARKED. */
    private final int[] parts = new int[PLACES + 1];

    private int asked;
    private long upper;
    private long lower = 1;
    private int finding;
    private final int[] findings = new int[SIZE + 1];

    public CalledNumbers() {
        Arrays.fill(rowSizes, MISSING);
        Arrays.fill(textSizes, MISSING);
        for (int k = 0; k < KEPT; k++) {
            kept[k] = new Deeds();
            kept[k].size = MISSING;
        }
        for (int depth = 0; depth <= AHEAD_MOST; depth++) {
            aside[depth] = new Hall(seats);
        }
    }

    // ---- 1 rows, texts, halls

    public int row(int r, int n) {
        if (!isRow(r) || n > ROW_MOST) {
            return BAD;
        }
        if (n < 0) {
            return found(SIZE);
        }
        Arrays.fill(rows[r], 0);
        rowSizes[r] = n;
        return n;
    }

    public int lay(int r, int i, int v) {
        int refused = refusedPlace(r, i);
        if (refused != FINE) {
            return refused;
        }
        asked = rows[r][i];
        rows[r][i] = v;
        return 1;
    }

    public int at(int r, int i) {
        int refused = refusedPlace(r, i);
        if (refused != FINE) {
            return refused;
        }
        asked = rows[r][i];
        return 1;
    }

    public int tear(int r) {
        int refused = refusedRow(r);
        if (refused != FINE) {
            return refused;
        }
        rowSizes[r] = MISSING;
        return 1;
    }

    public int copy(int r, int i, int to, int j, int n) {
        if (!isRow(r) || !isRow(to)) {
            return BAD;
        }
        if (n < 0) {
            return found(SIZE);
        }
        if (rowSizes[r] < 0 || rowSizes[to] < 0) {
            return found(NOTHING);
        }
        if (!reaches(r, i, n) || !reaches(to, j, n)) {
            return found(BEYOND);
        }
        System.arraycopy(rows[r], i, rows[to], j, n);
        return 1;
    }

    public int mean(int r) {
        int refused = refusedRow(r);
        if (refused != FINE) {
            return refused;
        }
        int size = rowSizes[r];
        if (size <= 0) {
            return found(NOUGHT);
        }
        long sum = 0;
        for (int i = 0; i < size; i++) {
            sum += rows[r][i];
        }
        asked = (int) (sum / size);
        return 1;
    }

    public int text(int t, int n) {
        if (!isText(t) || n > TEXT_MOST) {
            return BAD;
        }
        if (n < 0) {
            return found(SIZE);
        }
        Arrays.fill(texts[t], (byte) BLANK);
        textSizes[t] = n;
        return n;
    }

    public int put(int t, int i, int v) {
        int refused = refusedText(t);
        if (refused != FINE) {
            return refused;
        }
        if (i < 0 || i >= textSizes[t]) {
            return found(BEYOND);
        }
        int old = texts[t][i];
        texts[t][i] = (byte) v;
        return old + 1000;
    }

    public int fault(int t) {
        int refused = refusedText(t);
        if (refused != FINE) {
            return refused;
        }
        return reader.read(texts[t], textSizes[t]);
    }

    public int hall(int t) {
        int refused = refusedText(t);
        if (refused != FINE) {
            return refused;
        }
        if (reader.read(texts[t], textSizes[t]) != NONE) {
            return STATE;
        }
        seats.fillBy(reader);
        deeds.size = 0;
        for (int k = 0; k < KEPT; k++) {
            kept[k].size = MISSING;
        }
        hall.begin();
        return seats.taken;
    }

    public int player(int i, int what) {
        if (!isPlayer(i) || what < 0 || what > 4) {
            return BAD;
        }
        asked = ofPlayer(i, what);
        return 1;
    }

    public int card(int i, int place) {
        if (!isPlayer(i) || !isPlace(place)) {
            return BAD;
        }
        asked = seats.cards[i][place];
        return 1;
    }

    public int mark(int i, int kind) {
        if (!isPlayer(i) || kind < WHOLE || kind > SLY) {
            return BAD;
        }
        Plain is = seats.kindAt(i);
        if (kind == WHOLE && is instanceof Whole whole) {
            return whole.lacks(hall.marks[i]);
        }
        if (kind == DEAF && is instanceof Deaf deaf) {
            return deaf.callsTillDeaf(hall.calls);
        }
        if (kind == HASTY && is instanceof Hasty hasty) {
            return hasty.linesOfTwo(hall.marks[i]);
        }
        if (kind == LATE && is instanceof Late) {
            return hall.last;
        }
        if (kind == SLY && is instanceof Sly sly) {
            return sly.pairsOn(seats.cardBits[i]);
        }
        return found(UNLIKE);
    }

    // ---- 2 deeds

    public int call(int number) {
        if (!isNumber(number)) {
            return BAD;
        }
        if (seats.taken == 0 || !hall.holds(number)) {
            return STATE;
        }
        if (deeds.size >= DEEDS_MOST) {
            return FULL;
        }
        return doCall(number);
    }

    public int rub(int i, int place) {
        if (!isPlayer(i) || !isPlace(place)) {
            return BAD;
        }
        if (deeds.size >= DEEDS_MOST) {
            return FULL;
        }
        doRub(i, place);
        return hall.marks[i];
    }

    public int undo(int n) {
        if (n < 0 || n > deeds.size) {
            return BAD;
        }
        int undone = deeds.size - n;
        deeds.size = n;
        doAgain();
        return undone;
    }

    public int keep(int k) {
        if (!isKeptPlace(k)) {
            return BAD;
        }
        if (seats.taken == 0) {
            return STATE;
        }
        kept[k].take(deeds);
        return deeds.size;
    }

    public int on(int k) {
        if (!isKeptPlace(k)) {
            return BAD;
        }
        if (kept[k].size < 0) {
            return found(NOTHING);
        }
        deeds.take(kept[k]);
        doAgain();
        return deeds.size;
    }

    // ---- 3 what comes

    public int hears(int i, int number, int ahead, int call) {
        if (!isPlayer(i) || !isNumber(number) || ahead < 0 || ahead > NUMBERS) {
            return BAD;
        }
        // The document asks for another NUMBER in the CALL ahead.
        if (ahead == number || call < 0 || call > CALL_NUMBER_MOST) {
            return BAD;
        }
        return seats.kindAt(i).heard(number, ahead, call);
    }

    public int run(int r) {
        if (seats.taken == 0) {
            return STATE;
        }
        int refused = refusedRow(r);
        if (refused != FINE) {
            return refused;
        }
        int size = rowSizes[r];
        if (size > RUN_MOST) {
            return found(SIZE);
        }
        for (int k = 0; k < size; k++) {
            if (!isNumber(rows[r][k])) {
                return found(UNLIKE);
            }
        }
        Hall then = aside[0];
        then.take(hall);
        int called = 0;
        while (called < size && then.holds(rows[r][called])) {
            then.ring(rows[r][called], EVERYBODY);
            called++;
        }
        asked = called;
        return then.won;
    }

    public int safe() {
        if (seats.taken == 0) {
            return STATE;
        }
        int none = 0;
        int best = 0;
        int bestBy = 0;
        aside[0].take(hall);
        for (int number = 1; number <= NUMBERS; number++) {
            if (hall.holds(number)) {
                int winners = Integer.bitCount(stepAhead(0, number, EVERYBODY));
                if (winners == 0) {
                    none |= 1 << number;
                }
                if (winners > best) {
                    best = winners;
                    bestBy = 0;
                }
                if (winners == best) {
                    bestBy |= 1 << number;
                }
            }
        }
        asked = bestBy;
        return none;
    }

    public int fewest(int i, int r) {
        if (!isPlayer(i) || !isRow(r)) {
            return BAD;
        }
        int end = callsAhead(AHEAD_MOST);
        for (int n = 0; n <= end; n++) {
            if (winsAhead(i, 0, n)) {
                layTrail(r, n);
                return n;
            }
        }
        return NONE;
    }

    public int most(int n, int r) {
        if (n < 0 || n > AHEAD_MOST || !isRow(r)) {
            return BAD;
        }
        if (seats.taken == 0) {
            return STATE;
        }
        mostWinners = -1;
        gatherMost(r, 0, callsAhead(n));
        return mostWinners;
    }

    // ---- 4 which number, which kind

    public int which(int i, int places) {
        if (!isPlayer(i) || places < 0 || places > ALL_PLACES) {
            return BAD;
        }
        int fitting = 0;
        for (int number = 1; number <= NUMBERS; number++) {
            if (hall.holds(number) && marksBy(seats.kindOf[i], i, number) == places) {
                fitting |= 1 << number;
            }
        }
        return fitting;
    }

    public int kinds(int i, int r) {
        int refused = refusedPairs(i, r);
        if (refused != FINE) {
            return refused;
        }
        return fittingKinds(i, r);
    }

    public int next(int i, int r) {
        int refused = refusedPairs(i, r);
        if (refused != FINE) {
            return refused;
        }
        int set = fittingKinds(i, r);
        if (set == 0 || hall.bag == 0) {
            return NONE;
        }
        int least = KINDS + 1;
        int first = 0;
        for (int number = 1; number <= NUMBERS; number++) {
            if (hall.holds(number)) {
                int part = greatestPart(set, i, number);
                if (part < least) {
                    least = part;
                    first = number;
                }
            }
        }
        asked = least;
        return first;
    }

    // ---- 5 by turns

    public int duel(int i, int j, int n) {
        // The document asks for another PLAYER.
        if (!isPlayer(i) || !isPlayer(j) || i == j || n < 0 || n > DUEL_MOST) {
            return BAD;
        }
        asked = duelAhead(i, j, 0, callsAhead(2 * n));
        return 1;
    }

    // ---- 6 chances, lots

    public int odds(int i, int n) {
        return tellAhead(i, n, true);
    }

    public int mid(int i, int n) {
        return tellAhead(i, n, false);
    }

    public int lots(int n, int seed) {
        if (n < 1 || n > LOTS_MOST || seed < 1 || seed >= LOT_MODULUS) {
            return BAD;
        }
        if (seats.taken == 0) {
            return STATE;
        }
        if (deeds.size + n > DEEDS_MOST) {
            return FULL;
        }
        int lot = seed;
        for (int k = 0; k < n; k++) {
            lot = (int) (LOT_FACTOR * lot % LOT_MODULUS);
            doLot(lot);
        }
        return hall.won;
    }

    // ---- 7 what is told

    public int asked() {
        return asked;
    }

    public long upper() {
        return upper;
    }

    public long lower() {
        return lower;
    }

    public int count(int what) {
        switch (what) {
            case 0:
                return seats.taken;
            case 1:
                return hall.calls;
            case 2:
                return deeds.size;
            case 3:
                return hall.bag;
            case 4:
                return hall.last;
            case 5:
                return hall.won;
            case 6:
                return hall.allMarks();
            case 7:
                return seats.wholeOnes();
            case 8:
                return seats.deafOnes();
            case 9:
                return thoseThere(rowSizes);
            case 10:
                return thoseThere(textSizes);
            case 11:
                return keptHalls();
            default:
                return BAD;
        }
    }

    public int finding() {
        return finding;
    }

    public int findings(int f) {
        if (f < NOTHING || f > SIZE) {
            return BAD;
        }
        return findings[f];
    }

    public long digest() {
        long h = 17;
        for (int what = 0; what <= 11; what++) {
            h = 31 * h + count(what);
        }
        for (int i = 0; i < seats.taken; i++) {
            for (int what = 0; what <= 4; what++) {
                h = 31 * h + ofPlayer(i, what);
            }
            for (int place = 0; place < PLACES; place++) {
                h = 31 * h + seats.cards[i][place];
            }
        }
        for (int k = 0; k < KEPT; k++) {
            h = 31 * h + kept[k].size;
        }
        for (int r = 0; r < ROWS; r++) {
            h = 31 * h + rowSizes[r];
            for (int i = 0; i < rowSizes[r]; i++) {
                h = 31 * h + rows[r][i];
            }
        }
        for (int t = 0; t < TEXTS; t++) {
            h = 31 * h + textSizes[t];
            for (int i = 0; i < textSizes[t]; i++) {
                h = 31 * h + texts[t][i];
            }
        }
        return h;
    }

    // ---- what is refused

    private int found(int f) {
        finding = f;
        findings[f]++;
        return FINDING;
    }

    private boolean isRow(int r) {
        return r >= 0 && r < ROWS;
    }

    private boolean isText(int t) {
        return t >= 0 && t < TEXTS;
    }

    private boolean isPlayer(int i) {
        return i >= 0 && i < seats.taken;
    }

    private boolean isPlace(int place) {
        return place >= 0 && place < PLACES;
    }

    private boolean isNumber(int number) {
        return number >= 1 && number <= NUMBERS;
    }

    private boolean isKeptPlace(int k) {
        return k >= 0 && k < KEPT;
    }

    private int refusedRow(int r) {
        if (!isRow(r)) {
            return BAD;
        }
        return rowSizes[r] < 0 ? found(NOTHING) : FINE;
    }

    private int refusedPlace(int r, int i) {
        int refused = refusedRow(r);
        if (refused != FINE) {
            return refused;
        }
        return i < 0 || i >= rowSizes[r] ? found(BEYOND) : FINE;
    }

    private int refusedText(int t) {
        if (!isText(t)) {
            return BAD;
        }
        return textSizes[t] < 0 ? found(NOTHING) : FINE;
    }

    /** Whether a ROW that is there has n places from i on; long, as i + n may be too great. */
    private boolean reaches(int r, int i, int n) {
        return i >= 0 && (long) i + n <= rowSizes[r];
    }

    private int refusedPairs(int i, int r) {
        if (!isPlayer(i)) {
            return BAD;
        }
        int refused = refusedRow(r);
        if (refused != FINE) {
            return refused;
        }
        int size = rowSizes[r];
        if (size % 2 != 0 || size > 2 * PAIRS_MOST) {
            return found(SIZE);
        }
        for (int k = 0; k + 1 < size; k += 2) {
            int marked = rows[r][k + 1];
            if (!isNumber(rows[r][k]) || marked < 0 || marked > PLACES) {
                return found(UNLIKE);
            }
        }
        return FINE;
    }

    // ---- players, deeds

    private int ofPlayer(int i, int what) {
        int lacking = seats.kindAt(i).lacks(hall.marks[i]);
        switch (what) {
            case 0:
                return seats.kindOf[i];
            case 1:
                return hall.marks[i];
            case 2:
                return hall.won >> i & 1;
            case 3:
                return lacking == 0 ? 1 : 0;
            default:
                return lacking;
        }
    }

    private int doCall(int number) {
        deeds.add(number);
        return hall.ring(number, EVERYBODY);
    }

    private void doRub(int i, int place) {
        deeds.add(FIRST_RUB + i * PLACES + place);
        hall.turn(i, place);
    }

    private void doLot(int lot) {
        if (lot / 8 % 8 == 7 || hall.bag == 0) {
            if (seats.taken > 0) {
                doRub(lot % seats.taken, lot / 64 % PLACES);
            }
            return;
        }
        int number = lot % NUMBERS + 1;
        for (int k = 0; k < NUMBERS && !hall.holds(number); k++) {
            number = number % NUMBERS + 1;
        }
        doCall(number);
    }

    /** Only DEEDS are kept: what they have come to is worked out anew. */
    private void doAgain() {
        hall.begin();
        for (int k = 0; k < deeds.size; k++) {
            int deed = deeds.done[k];
            if (deed < FIRST_RUB) {
                hall.ring(deed, EVERYBODY);
            } else {
                hall.turn((deed - FIRST_RUB) / PLACES, (deed - FIRST_RUB) % PLACES);
            }
        }
    }

    // ---- what comes

    /** Sets out from the HALL as it is: how many of n CALLS the bag has NUMBERS for. */
    private int callsAhead(int n) {
        aside[0].take(hall);
        return Math.min(Math.min(n, AHEAD_MOST), Integer.bitCount(hall.bag));
    }

    /** One CALL more, for some PLAYERS alone: those who WIN by it. */
    private int stepAhead(int depth, int number, int who) {
        trail[depth] = number;
        aside[depth + 1].take(aside[depth]);
        return aside[depth + 1].ring(number, who);
    }

    private void layTrail(int r, int n) {
        System.arraycopy(trail, 0, rows[r], 0, n);
        rowSizes[r] = n;
    }

    private boolean winsAhead(int i, int depth, int end) {
        Hall here = aside[depth];
        if (depth >= end || depth >= AHEAD_MOST) {
            return here.hasWon(i);
        }
        for (int number = 1; number <= NUMBERS; number++) {
            if (here.holds(number)) {
                stepAhead(depth, number, 1 << i);
                if (winsAhead(i, depth + 1, end)) {
                    return true;
                }
            }
        }
        return false;
    }

    private void gatherMost(int r, int depth, int end) {
        Hall here = aside[depth];
        if (depth >= end || depth >= AHEAD_MOST) {
            int winners = Integer.bitCount(here.won);
            if (winners > mostWinners) {
                mostWinners = winners;
                layTrail(r, depth);
            }
            return;
        }
        for (int number = 1; number <= NUMBERS && mostWinners < seats.taken; number++) {
            if (here.holds(number)) {
                stepAhead(depth, number, EVERYBODY);
                gatherMost(r, depth + 1, end);
            }
        }
    }

    private int duelAhead(int i, int j, int depth, int end) {
        Hall here = aside[depth];
        if (depth >= end || depth >= AHEAD_MOST) {
            return here.worth(i) - here.worth(j);
        }
        boolean wantsMuch = depth % 2 == 0;
        int best = wantsMuch ? -WORTH_BOUND : WORTH_BOUND;
        for (int number = 1; number <= NUMBERS; number++) {
            if (here.holds(number)) {
                stepAhead(depth, number, 1 << i | 1 << j);
                int worth = duelAhead(i, j, depth + 1, end);
                best = wantsMuch ? Math.max(best, worth) : Math.min(best, worth);
            }
        }
        return best;
    }

    // ---- which kind

    /** The PLACES that a PLAYER, if of a KIND, would have MARKED by one CALL now. */
    private int marksBy(int kind, int i, int number) {
        int heard = seats.kinds[kind].heard(number, hall.last, hall.calls);
        return seats.marked(i, hall.marks[i], heard);
    }

    private int fittingKinds(int i, int r) {
        int set = 0;
        for (int kind = 0; kind < KINDS; kind++) {
            if (fitsPairs(kind, i, r)) {
                set |= 1 << kind;
            }
        }
        return set;
    }

    private boolean fitsPairs(int kind, int i, int r) {
        int marks = hall.marks[i];
        int bag = hall.bag;
        int last = hall.last;
        int call = hall.calls;
        for (int k = 0; k + 1 < rowSizes[r]; k += 2) {
            int number = rows[r][k];
            if ((bag >> number & 1) == 0) {
                return false;
            }
            marks = seats.marked(i, marks, seats.kinds[kind].heard(number, last, call));
            if (Integer.bitCount(marks) != rows[r][k + 1]) {
                return false;
            }
            bag &= ~(1 << number);
            last = number;
            call++;
        }
        return true;
    }

    private int greatestPart(int set, int i, int number) {
        Arrays.fill(parts, 0);
        int greatest = 0;
        for (int kind = 0; kind < KINDS; kind++) {
            if ((set >> kind & 1) == 1) {
                int marked = Integer.bitCount(marksBy(kind, i, number) & ALL_PLACES);
                parts[marked]++;
                greatest = Math.max(greatest, parts[marked]);
            }
        }
        return greatest;
    }

    // ---- chances

    private int tellAhead(int i, int n, boolean wins) {
        if (!isPlayer(i) || n < 0 || n > LOT_CALLS_MOST) {
            return BAD;
        }
        int end = callsAhead(n);
        tell(sumAhead(i, wins, 0, end), orders(end));
        return 1;
    }

    /** In how many orders the next CALLS can come. */
    private long orders(int calls) {
        long all = 1;
        int left = Integer.bitCount(hall.bag);
        for (int k = 0; k < calls; k++) {
            all *= left - k;
        }
        return all;
    }

    /** Over all orders of the next CALLS: in how many a PLAYER has WON, or else all its MARKS. */
    private long sumAhead(int i, boolean wins, int depth, int end) {
        Hall here = aside[depth];
        if (depth >= end || depth >= AHEAD_MOST) {
            return wins ? here.won >> i & 1 : Integer.bitCount(here.marks[i]);
        }
        long sum = 0;
        for (int number = 1; number <= NUMBERS; number++) {
            if (here.holds(number)) {
                stepAhead(depth, number, 1 << i);
                sum += sumAhead(i, wins, depth + 1, end);
            }
        }
        return sum;
    }

    private void tell(long above, long below) {
        long common = commonDivisor(above, below);
        if (common > 0) {
            upper = above / common;
            lower = below / common;
        }
    }

    private static long commonDivisor(long a, long b) {
        long one = a;
        long other = b;
        for (int k = 0; k < 100 && other != 0; k++) {
            long rest = one % other;
            one = other;
            other = rest;
        }
        return one;
    }

    // ---- counts

    private static int thoseThere(int[] sizes) {
        int there = 0;
        for (int size : sizes) {
            if (size >= 0) {
                there++;
            }
        }
        return there;
    }

    private int keptHalls() {
        int there = 0;
        for (int k = 0; k < KEPT; k++) {
            if (kept[k].size >= 0) {
                there++;
            }
        }
        return there;
    }

    /** KIND 0, and what each other KIND does if it does not do it otherwise. */
    private static class Plain {
        /** The NUMBERS (bits) that are HEARD at a CALL. */
        int heard(int number, int ahead, int call) {
            return 1 << number;
        }

        /** The least number of MARKS more by which it HAS it: 0, if it HAS it. */
        int lacks(int marks) {
            return Math.min(3 - inUpper(marks), 3 - inLower(marks));
        }

        final int inUpper(int marks) {
            return Integer.bitCount(marks & UPPER_LINE);
        }

        final int inLower(int marks) {
            return Integer.bitCount(marks & LOWER_LINE);
        }
    }

    private static class Whole extends Plain {
        int lacks(int marks) {
            return PLACES - inUpper(marks) - inLower(marks);
        }
    }

    private static class Deaf extends Plain {
        int heard(int number, int ahead, int call) {
            return call % 3 == 2 ? 0 : 1 << number;
        }

        final int callsTillDeaf(int call) {
            return 2 - call % 3;
        }
    }

    private static final class Hasty extends Plain {
        int lacks(int marks) {
            int toTwoEach = Math.max(0, 2 - inUpper(marks)) + Math.max(0, 2 - inLower(marks));
            return Math.min(toTwoEach, super.lacks(marks));
        }

        int linesOfTwo(int marks) {
            return (inUpper(marks) >= 2 ? 1 : 0) + (inLower(marks) >= 2 ? 1 : 0);
        }
    }

    private static final class Late extends Whole {
        int heard(int number, int ahead, int call) {
            return ahead == 0 ? 0 : 1 << ahead;
        }
    }

    private static final class Sly extends Deaf {
        int heard(int number, int ahead, int call) {
            int called = super.heard(number, ahead, call);
            return called == 0 ? 0 : called | 1 << behind(number);
        }

        private static int behind(int number) {
            return number % NUMBERS + 1;
        }

        /** How many NUMBERS of a CARD (bits) have the next one on it, too. */
        int pairsOn(int card) {
            int pairs = 0;
            for (int number = 1; number <= NUMBERS; number++) {
                if ((card >> number & 1) == 1 && (card >> behind(number) & 1) == 1) {
                    pairs++;
                }
            }
            return pairs;
        }
    }

    /** Reads a TEXT aside, so that a FAULT leaves the PLAYERS as they are. */
    private static final class Reader {
        private static final int ITEM = 1 + 2 * PLACES;

        private final int[] kindOf = new int[PLAYERS_MOST];
        private final int[][] cards = new int[PLAYERS_MOST][PLACES];
        private int players;

        /** The FAULT, or NONE. */
        int read(byte[] text, int size) {
            players = 0;
            int at = 0;
            while (at < size) {
                if (text[at] == BLANK) {
                    at++;
                } else {
                    int kind = kindBy(text[at]);
                    if (kind < 0 || players >= PLAYERS_MOST) {
                        return at;
                    }
                    int fault = readCard(text, size, at + 1);
                    if (fault != NONE) {
                        return fault;
                    }
                    kindOf[players] = kind;
                    players++;
                    at += ITEM;
                }
            }
            return players == 0 ? size : NONE;
        }

        private static int kindBy(int letter) {
            for (int kind = 0; kind < KINDS; kind++) {
                if (LETTERS[kind] == letter) {
                    return kind;
                }
            }
            return -1;
        }

        private int readCard(byte[] text, int size, int from) {
            int seen = 0;
            for (int place = 0; place < PLACES; place++) {
                int first = from + 2 * place;
                for (int at = first; at <= first + 1; at++) {
                    if (at >= size) {
                        return size;
                    }
                    if (text[at] < '0' || text[at] > '9') {
                        return at;
                    }
                }
                int number = (text[first] - '0') * 10 + text[first + 1] - '0';
                if (number < 1 || number > NUMBERS || (seen >> number & 1) == 1) {
                    return first;
                }
                seen |= 1 << number;
                cards[players][place] = number;
            }
            return NONE;
        }
    }

    /** The PLAYERS, as a TEXT told them: their KINDS and CARDS. */
    private static final class Seats {
        private final Plain[] kinds =
            {new Plain(), new Whole(), new Deaf(), new Hasty(), new Late(), new Sly()};
        private final int[] kindOf = new int[PLAYERS_MOST];
        private final int[][] cards = new int[PLAYERS_MOST][PLACES];
        private final int[] cardBits = new int[PLAYERS_MOST];
        private int taken;

        void fillBy(Reader reader) {
            taken = reader.players;
            for (int i = 0; i < taken; i++) {
                kindOf[i] = reader.kindOf[i];
                cardBits[i] = 0;
                for (int place = 0; place < PLACES; place++) {
                    cards[i][place] = reader.cards[i][place];
                    cardBits[i] |= 1 << cards[i][place];
                }
            }
        }

        Plain kindAt(int i) {
            return kinds[kindOf[i]];
        }

        /** The PLACES that are MARKED behind some NUMBERS HEARD. */
        int marked(int i, int marks, int heard) {
            int then = marks;
            if ((heard & cardBits[i]) != 0) {
                for (int place = 0; place < PLACES; place++) {
                    then |= (heard >> cards[i][place] & 1) << place;
                }
            }
            return then;
        }

        int wholeOnes() {
            int whole = 0;
            for (int i = 0; i < taken; i++) {
                if (kindAt(i) instanceof Whole) {
                    whole++;
                }
            }
            return whole;
        }

        int deafOnes() {
            int deaf = 0;
            for (int i = 0; i < taken; i++) {
                if (kindAt(i) instanceof Deaf) {
                    deaf++;
                }
            }
            return deaf;
        }
    }

    /** What has come of DEEDS: MARKS, who has WON, the bag, the CALLS. */
    private static final class Hall {
        private final Seats seats;
        private final int[] marks = new int[PLAYERS_MOST];
        private int won;
        private int bag;
        private int last;
        private int calls;

        Hall(Seats seats) {
            this.seats = seats;
        }

        void begin() {
            Arrays.fill(marks, 0);
            won = 0;
            bag = seats.taken == 0 ? 0 : FULL_BAG;
            last = 0;
            calls = 0;
        }

        void take(Hall other) {
            for (int i = 0; i < PLAYERS_MOST; i++) {
                marks[i] = other.marks[i];
            }
            won = other.won;
            bag = other.bag;
            last = other.last;
            calls = other.calls;
        }

        boolean holds(int number) {
            return (bag >> number & 1) == 1;
        }

        boolean hasWon(int i) {
            return (won >> i & 1) == 1;
        }

        /** A CALL that some PLAYERS (bits) listen to: those of them who WIN by it. */
        int ring(int number, int who) {
            int before = won;
            for (int i = 0; i < seats.taken; i++) {
                if ((who >> i & 1) == 1) {
                    Plain kind = seats.kindAt(i);
                    marks[i] = seats.marked(i, marks[i], kind.heard(number, last, calls));
                    if (kind.lacks(marks[i]) == 0) {
                        won |= 1 << i;
                    }
                }
            }
            bag &= ~(1 << number);
            last = number;
            calls++;
            return won & ~before;
        }

        /** By hand; nobody WINS by it. */
        void turn(int i, int place) {
            marks[i] ^= 1 << place;
        }

        int allMarks() {
            int all = 0;
            for (int i = 0; i < seats.taken; i++) {
                all += Integer.bitCount(marks[i]);
            }
            return all;
        }

        int worth(int i) {
            return Integer.bitCount(marks[i]) + (hasWon(i) ? WON_WORTH : 0);
        }
    }

    private static final class Deeds {
        private final int[] done = new int[DEEDS_MOST];
        private int size;

        void add(int deed) {
            if (size < DEEDS_MOST) {
                done[size] = deed;
                size++;
            }
        }

        void take(Deeds other) {
            size = other.size;
            for (int k = 0; k < size; k++) {
                done[k] = other.done[k];
            }
        }
    }
}
