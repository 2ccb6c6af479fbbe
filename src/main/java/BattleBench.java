/** Old soldiers on a bench, seated as they stood that day; ../shared/DOC.md says what each call promises. */
public final class BattleBench {
    public static final int BAD = -1, NOT = -2, FULL = -3, NONE = -4, NULL = -11, CAST = -12, INDEX = -13, SIZE = -14;

    private static final int MEN = 6, HOURS = 3, PLACES = 10, MOST_LIFE = 60;
    private static final int PLAIN = 0, HALE = 1, HURT = 2, DRUMMER = 3, RUNNER = 4, KINDS = 5;
    private static final int LOSS_OF_PLAIN = 2, LOSS_OF_HURT = 2 * LOSS_OF_PLAIN;
    private static final int NOBODY = -1;
    private static final int LAST_YEAR = 9999, MOST_YEARS = 40, MOST_FORETOLD = 60, MOST_LEFT = 30;
    private static final int KNOWN = 8, LOWEST_31_BITS = 0x7fffffff;
    private static final int TAPE = 70, FAULT = -20, NO_FAULT = 0;
    private static final int SHEETS = 4, LANES = 4, ITEMS = 24, MOST_TOLD = 8;
    private static final int TENTHS = 10;
    private static final int ORDERS = 720;
    private static final String KIND_LETTERS = "phudr";

    private final State state = new State();
    private final State kept = new State();
    private boolean isKept = false;
    private final Tape tape = new Tape();
    private final Sheet[] sheets = new Sheet[SHEETS];

    // Rows for working something out: made once, because all that a run makes is counted.
    private final Bench trial = new Bench();
    private final Roll guess = new Roll();
    private final Order order = new Order();
    private final int[] chains = new int[MEN];

    public BattleBench() {
        for (int s = 0; s < SHEETS; s++) {
            sheets[s] = new Sheet();
        }
    }

    // ---- 1 men

    public int man(int kind, int life) {
        if (!within(kind, 0, KINDS - 1) || !within(life, 1, MOST_LIFE)) {
            return BAD;
        }
        Roll roll = state.roll;
        int number = roll.men;
        if (number >= MEN) {
            return FULL;
        }
        if (roll.isTakenAtAnyHour(number)) {
            return NOT;
        }
        roll.placeNextByNumber();
        roll.admit(kind);
        roll.findWhoStoodBy();
        state.bench.seatLast(number, life);
        state.log.forget();
        return number;
    }

    public int stood(int man, int hour, int place) {
        Roll roll = state.roll;
        if (!roll.has(man) || !isHour(hour) || !within(place, 0, PLACES - 1)) {
            return BAD;
        }
        if (roll.isTaken(hour, place)) {
            return NOT;
        }
        int before = roll.places[hour][man];
        roll.places[hour][man] = place;
        roll.findWhoStoodBy();
        return before;
    }

    public int of(int man, int what) {
        Roll roll = state.roll;
        if (!roll.has(man)) {
            return BAD;
        }
        Bench bench = state.bench;
        switch (what) {
            case 0: return roll.kinds[man];
            case 1: return bench.lives[man];
            case 2: return bench.seatOf(man);
            case 3: case 4: case 5: return roll.places[what - 3][man];
            case 6: return roll.stoodBy[man];
            case 7: return bench.whoSitsBy(man);
            case 8: return bench.lossOf(man, roll);
            default: return BAD;
        }
    }

    public int seat(int k) {
        return k < 0 ? BAD : state.bench.whoIsOn(k);
    }

    public int type(int letter) {
        if (!within(letter, ' ', '~')) {
            return BAD;
        }
        if (tape.length >= TAPE) {
            return FULL;
        }
        tape.add((char) letter);
        return tape.length;
    }

    public int read() {
        int fault = tape.readBench();
        tape.length = 0;
        if (fault != NO_FAULT) {
            return fault;
        }
        state.roll.takeFrom(tape.roll);
        state.roll.findWhoStoodBy();
        state.bench.seatAll(tape.roll.men, tape.lives);
        state.log.forget();
        return state.roll.men;
    }

    public int count(int what) {
        Bench bench = state.bench;
        switch (what) {
            case 0: return state.roll.men;
            case 1: return bench.seated;
            case 2: return bench.year;
            case 3: return bench.whoSits();
            case 4: return bench.lifeOfAll();
            case 5: return state.roll.wrongPairs(bench.seats, bench.seated);
            case 6: return state.log.known;
            default: return BAD;
        }
    }

    // ---- what is done

    public int years(int n) {
        return goOn(n, false);
    }

    public int move(int k) {
        Bench bench = state.bench;
        if (!bench.hasPairAt(k)) {
            return BAD;
        }
        state.log.keep(bench);
        bench.swapAt(k);
        return bench.whoIsOn(k);
    }

    public int nurse(int man, int n) {
        if (!state.roll.has(man) || !within(n, 1, MOST_LIFE)) {
            return BAD;
        }
        Bench bench = state.bench;
        if (bench.seatOf(man) == NONE) {
            return NOT;
        }
        state.log.keep(bench);
        bench.lives[man] = Math.min(MOST_LIFE, bench.lives[man] + n);
        return bench.lives[man];
    }

    public int drift(int n) {
        return goOn(n, true);
    }

    public int undo() {
        if (state.log.known == 0) {
            return NONE;
        }
        state.log.giveBack(state.bench);
        return state.log.known;
    }

    public int seed(int v) {
        if (v < 0) {
            return BAD;
        }
        int before = state.bench.draw;
        state.bench.draw = v;
        return before;
    }

    /** Years one by one, each of a drift with its move; who is on the bench then. */
    private int goOn(int n, boolean isDrift) {
        if (!within(n, 1, MOST_YEARS)) {
            return BAD;
        }
        Bench bench = state.bench;
        if (bench.year + n > LAST_YEAR) {
            return FULL;
        }
        for (int y = 0; y < n; y++) {
            state.log.keep(bench);
            if (isDrift) {
                bench.moveByDraw();
            }
            bench.passYear(state.roll);
        }
        return bench.whoSits();
    }

    // ---- 2 foretold

    public int ahead(int man, int n) {
        if (!state.roll.has(man) || !within(n, 0, MOST_FORETOLD)) {
            return BAD;
        }
        foretell(n);
        return trial.lives[man];
    }

    public int then(int n) {
        if (!within(n, 0, MOST_FORETOLD)) {
            return BAD;
        }
        foretell(n);
        return trial.whoSits();
    }

    public int ends(int man) {
        if (!state.roll.has(man)) {
            return BAD;
        }
        trial.takeFrom(state.bench);
        for (int y = 0; y <= MOST_FORETOLD; y++) {
            if (trial.seatOf(man) == NONE) {
                return y;
            }
            trial.passYear(state.roll);
        }
        return NONE;
    }

    public int lonely() {
        trial.takeFrom(state.bench);
        for (int y = 0; y <= MOST_FORETOLD; y++) {
            if (trial.seated <= 1) {
                return y;
            }
            trial.passYear(state.roll);
        }
        return NONE;
    }

    public int close(int man, int other) {
        if (!state.roll.has(man) || !state.roll.has(other) || man == other) {
            return BAD;
        }
        trial.takeFrom(state.bench);
        for (int y = 0; y <= MOST_FORETOLD; y++) {
            if (holds(trial.whoSitsBy(man), other)) {
                return y;
            }
            trial.passYear(state.roll);
        }
        return NONE;
    }

    public int swaps(int hour) {
        if (!isHour(hour)) {
            return BAD;
        }
        // Neighbours who change seats mend one pair at most, so as many moves are needed as pairs are turned round.
        Bench bench = state.bench;
        int[] places = state.roll.places[hour];
        int turned = 0;
        for (int k = 0; k < bench.seated; k++) {
            for (int j = k + 1; j < bench.seated; j++) {
                if (places[bench.seats[k]] > places[bench.seats[j]]) {
                    turned++;
                }
            }
        }
        return turned;
    }

    public int stay(int hour, int what) {
        if (!isHour(hour) || !within(what, 0, 1)) {
            return BAD;
        }
        int who = whoCouldStay(state.roll.places[hour]);
        return what == 0 ? Integer.bitCount(who) : who;
    }

    public int ways() {
        order.start(state.bench);
        int found = 0;
        for (int o = 0; o < ORDERS; o++) {
            if (state.roll.wrongPairs(order.men, order.size) == 0) {
                found++;
            }
            if (!order.advance()) {
                break;
            }
        }
        return found;
    }

    public int ease(int k) {
        if (k < -1) {
            return BAD;
        }
        int fewest = findEase();
        return k == -1 ? fewest : order.bestOn(k);
    }

    public int left(int n, int k) {
        if (!within(n, 0, MOST_LEFT) || k < -2) {
            return BAD;
        }
        findMostLeft(n);
        if (k >= 0) {
            return order.bestOn(k);
        }
        foretellFor(order.best, n);
        return k == -1 ? trial.seated : trial.lifeOfAll();
    }

    public int winter(int m, int c, int what) {
        if (!within(m, 0, MEN) || !within(c, 0, TENTHS) || !within(what, 0, 1)) {
            return BAD;
        }
        int above = weightOfWinters(m, c);
        int below = power(TENTHS, state.bench.seated);
        int common = commonDivisor(above, below);
        if (common <= 0) {
            return BAD;
        }
        return (what == 0 ? above : below) / common;
    }

    public int image() {
        kept.takeFrom(state);
        isKept = true;
        return 1;
    }

    public int restore() {
        if (!isKept) {
            return NONE;
        }
        state.takeFrom(kept);
        return 1;
    }

    // ---- 3 sheets

    public int failed(int man, int sheet, int lane, int i, int n, int what) {
        if (!state.roll.has(man) || !isSheet(sheet) || !isLane(lane)
                || !within(n, 1, MOST_TOLD) || !within(what, 0, 2)) {
            return BAD;
        }
        Sheet row = sheets[sheet];
        int refusal = row.refusalOf(lane, i, n);
        if (refusal != 0) {
            return refusal;
        }
        if (state.bench.seatOf(man) == NONE) {
            return NOT;
        }
        switch (what) {
            case 0: return kindsThatFit(man, row, i, n);
            case 1: return howManyLivesFit(man, row, i, n);
            default: return leastLifeThatFits(man, row, i, n);
        }
    }

    public int film(int man, int n, int sheet, int lane, int i) {
        if (!state.roll.has(man) || !within(n, 1, ITEMS) || !isSheet(sheet) || !isLane(lane)) {
            return BAD;
        }
        Sheet row = sheets[sheet];
        int refusal = row.refusalOf(lane, i, n);
        if (refusal != 0) {
            return refusal;
        }
        trial.takeFrom(state.bench);
        for (int y = 0; y < n; y++) {
            trial.passYear(state.roll);
            row.put(i + y, trial.lives[man]);
        }
        return n;
    }

    public int sheet(int sheet, int lane, int n) {
        if (!isSheet(sheet) || !isLane(lane) || n > ITEMS) {
            return BAD;
        }
        if (n < 0) {
            return SIZE;
        }
        sheets[sheet].renew(lane, n);
        return n;
    }

    public int drop(int sheet) {
        if (!isSheet(sheet)) {
            return BAD;
        }
        Sheet row = sheets[sheet];
        if (!row.isThere) {
            return NULL;
        }
        row.isThere = false;
        return row.length;
    }

    public int item(int sheet, int lane, int i, long v) {
        if (!isSheet(sheet) || !isLane(lane)) {
            return BAD;
        }
        int refusal = sheets[sheet].refusalOf(lane, i, 1);
        if (refusal != 0) {
            return refusal;
        }
        sheets[sheet].put(i, v);
        return 1;
    }

    public int copy(int from, int i, int to, int j, int n) {
        if (!isSheet(from) || !isSheet(to)) {
            return BAD;
        }
        Sheet source = sheets[from];
        Sheet target = sheets[to];
        if (!source.isThere || !target.isThere) {
            return NULL;
        }
        if (source.lane != target.lane) {
            return CAST;
        }
        if (!source.spans(i, n) || !target.spans(j, n)) {
            return INDEX;
        }
        System.arraycopy(source.items, i, target.items, j, n);
        return n;
    }

    // ---- what is foretold, worked out

    private void foretell(int n) {
        trial.takeFrom(state.bench);
        trial.passYears(n, state.roll);
    }

    private void foretellFor(int[] row, int n) {
        trial.takeFrom(state.bench);
        trial.seatAs(row);
        trial.passYears(n, state.roll);
    }

    private int whoCouldStay(int[] places) {
        Bench bench = state.bench;
        int longest = measureChains(places);
        int who = 0;
        int place = -1;
        for (int k = 0; k < bench.seated; k++) {
            int man = bench.seats[k];
            // The first seat from which the row can still be as long as it must: so the row is the first by seats.
            if (longest > 0 && places[man] > place && chains[k] == longest) {
                who |= 1 << man;
                place = places[man];
                longest--;
            }
        }
        return who;
    }

    /** How long a row in order of places can be that begins at each seat; the most of these. */
    private int measureChains(int[] places) {
        Bench bench = state.bench;
        int longest = 0;
        for (int k = bench.seated - 1; k >= 0; k--) {
            int behind = 0;
            for (int j = k + 1; j < bench.seated; j++) {
                if (places[bench.seats[j]] > places[bench.seats[k]]) {
                    behind = Math.max(behind, chains[j]);
                }
            }
            chains[k] = behind + 1;
            longest = Math.max(longest, chains[k]);
        }
        return longest;
    }

    private int findEase() {
        order.start(state.bench);
        int fewest = order.size;
        for (int o = 0; o < ORDERS; o++) {
            int wrong = state.roll.wrongPairs(order.men, order.size);
            if (wrong < fewest) {
                fewest = wrong;
                order.keepAsBest();
            }
            if (fewest == 0 || !order.advance()) {
                break;
            }
        }
        return fewest;
    }

    private void findMostLeft(int n) {
        order.start(state.bench);
        int mostSeated = -1;
        int mostLife = -1;
        for (int o = 0; o < ORDERS; o++) {
            // A bench and the same from the other end fare alike: the first of the two is enough.
            if (!order.isTurnedRound()) {
                foretellFor(order.men, n);
                int life = trial.lifeOfAll();
                if (trial.seated > mostSeated || (trial.seated == mostSeated && life > mostLife)) {
                    mostSeated = trial.seated;
                    mostLife = life;
                    order.keepAsBest();
                }
            }
            if (!order.advance()) {
                break;
            }
        }
    }

    /** Of 10 to the power of those seated, how many winters leave m or more of them, none beside a stranger. */
    private int weightOfWinters(int m, int c) {
        int seated = state.bench.seated;
        int weight = 0;
        for (int seatsLeft = 0; seatsLeft < (1 << seated); seatsLeft++) {
            int many = Integer.bitCount(seatsLeft);
            if (many >= m && areAllByTheirOwn(seatsLeft)) {
                weight += power(TENTHS - c, many) * power(c, seated - many);
            }
        }
        return weight;
    }

    private boolean areAllByTheirOwn(int seatsLeft) {
        int before = NOBODY;
        for (int k = 0; k < state.bench.seated; k++) {
            if (holds(seatsLeft, k)) {
                int man = state.bench.seats[k];
                if (before != NOBODY && !holds(state.roll.stoodBy[before], man)) {
                    return false;
                }
                before = man;
            }
        }
        return true;
    }

    // ---- by how he failed

    private int kindsThatFit(int man, Sheet row, int i, int n) {
        int kinds = 0;
        for (int kind = 0; kind < KINDS; kind++) {
            guess.takeFrom(state.roll);
            guess.kinds[man] = kind;
            trial.takeFrom(state.bench);
            if (doesFail(man, row, i, n)) {
                kinds |= 1 << kind;
            }
        }
        return kinds;
    }

    private int howManyLivesFit(int man, Sheet row, int i, int n) {
        int many = 0;
        for (int life = 1; life <= MOST_LIFE; life++) {
            if (doesLifeFit(man, life, row, i, n)) {
                many++;
            }
        }
        return many;
    }

    private int leastLifeThatFits(int man, Sheet row, int i, int n) {
        for (int life = 1; life <= MOST_LIFE; life++) {
            if (doesLifeFit(man, life, row, i, n)) {
                return life;
            }
        }
        return NONE;
    }

    private boolean doesLifeFit(int man, int life, Sheet row, int i, int n) {
        guess.takeFrom(state.roll);
        trial.takeFrom(state.bench);
        trial.lives[man] = life;
        return doesFail(man, row, i, n);
    }

    /** Whether the man of the guess, on the trial's bench, fails as the row tells. */
    private boolean doesFail(int man, Sheet row, int i, int n) {
        for (int y = 0; y < n; y++) {
            trial.passYear(guess);
            if (row.items[i + y] != trial.lives[man]) {
                return false;
            }
        }
        return true;
    }

    // ---- numbers

    private static boolean within(int v, int least, int most) {
        return v >= least && v <= most;
    }

    private static boolean isHour(int hour) {
        return within(hour, 0, HOURS - 1);
    }

    private static boolean isSheet(int sheet) {
        return within(sheet, 0, SHEETS - 1);
    }

    private static boolean isLane(int lane) {
        return within(lane, 0, LANES - 1);
    }

    private static boolean holds(int set, int member) {
        return (set >> member & 1) == 1;
    }

    private static int power(int base, int exponent) {
        int product = 1;
        for (int e = 0; e < exponent; e++) {
            product *= base;
        }
        return product;
    }

    private static int commonDivisor(int a, int b) {
        int greater = a;
        int lesser = b;
        for (int step = 0; step < 100 && lesser != 0; step++) {
            int rest = greater % lesser;
            greater = lesser;
            lesser = rest;
        }
        return greater;
    }

    /** Who the men are and where they stood: what is told, and is not undone. */
    private static final class Roll {
        int men = 0;
        final int[] kinds = new int[MEN];
        final int[][] places = new int[HOURS][MEN];
        final int[] stoodBy = new int[MEN];

        void takeFrom(Roll other) {
            men = other.men;
            for (int man = 0; man < MEN; man++) {
                kinds[man] = other.kinds[man];
                stoodBy[man] = other.stoodBy[man];
                for (int hour = 0; hour < HOURS; hour++) {
                    places[hour][man] = other.places[hour][man];
                }
            }
        }

        boolean has(int man) {
            return within(man, 0, men - 1);
        }

        boolean isTaken(int hour, int place) {
            for (int man = 0; man < men; man++) {
                if (places[hour][man] == place) {
                    return true;
                }
            }
            return false;
        }

        boolean isTakenAtAnyHour(int place) {
            for (int hour = 0; hour < HOURS; hour++) {
                if (isTaken(hour, place)) {
                    return true;
                }
            }
            return false;
        }

        void placeNext(int hour, int place) {
            if (men < MEN) {
                places[hour][men] = place;
            }
        }

        void placeNextByNumber() {
            for (int hour = 0; hour < HOURS; hour++) {
                placeNext(hour, men);
            }
        }

        /** One man more, who stood where he was placed as the next. */
        void admit(int kind) {
            if (men < MEN) {
                kinds[men] = kind;
                men++;
            }
        }

        void findWhoStoodBy() {
            for (int man = 0; man < men; man++) {
                stoodBy[man] = 0;
                for (int other = 0; other < men; other++) {
                    if (other != man && wereTogether(man, other)) {
                        stoodBy[man] |= 1 << other;
                    }
                }
            }
        }

        private boolean wereTogether(int man, int other) {
            for (int hour = 0; hour < HOURS; hour++) {
                if (isNobodyBetween(places[hour], places[hour][man], places[hour][other])) {
                    return true;
                }
            }
            return false;
        }

        private boolean isNobodyBetween(int[] row, int place, int another) {
            int least = Math.min(place, another);
            int most = Math.max(place, another);
            for (int man = 0; man < men; man++) {
                if (row[man] > least && row[man] < most) {
                    return false;
                }
            }
            return true;
        }

        /** How many neighbours in a row never stood by one another. */
        int wrongPairs(int[] row, int length) {
            int wrong = 0;
            for (int k = 1; k < length; k++) {
                if (!holds(stoodBy[row[k - 1]], row[k])) {
                    wrong++;
                }
            }
            return wrong;
        }

        /** By how much a man fails in a year, between these two (each a set of one or of nobody). */
        int lossOf(int man, int year, int before, int after) {
            switch (kinds[man]) {
                case HALE: return lossOfHale(year);
                case HURT: return LOSS_OF_HURT;
                case DRUMMER: return lossOfHale(year) + (before == 0 || after == 0 ? 1 : 0);
                case RUNNER: return Math.max(0, LOSS_OF_HURT - Integer.bitCount(stoodBy[man] & (before | after)));
                case PLAIN: default: return LOSS_OF_PLAIN;
            }
        }

        private int lossOfHale(int year) {
            return year % 2 == 0 ? LOSS_OF_PLAIN : 0;
        }
    }

    /** What years, moves and nurses change, and what is undone: lives, seats, the year, the draw. */
    private static final class Bench {
        final int[] lives = new int[MEN];
        final int[] seats = new int[MEN];
        int seated = 0;
        int year = 0;
        int draw = 1;

        void takeFrom(Bench other) {
            for (int k = 0; k < MEN; k++) {
                lives[k] = other.lives[k];
                seats[k] = other.seats[k];
            }
            seated = other.seated;
            year = other.year;
            draw = other.draw;
        }

        void seatLast(int man, int life) {
            if (seated < MEN) {
                lives[man] = life;
                seats[seated] = man;
                seated++;
            }
        }

        void seatAll(int men, int[] lifeOfEach) {
            seated = 0;
            year = 0;
            for (int man = 0; man < men; man++) {
                seatLast(man, lifeOfEach[man]);
            }
        }

        void seatAs(int[] row) {
            for (int k = 0; k < seated; k++) {
                seats[k] = row[k];
            }
        }

        int whoIsOn(int k) {
            return within(k, 0, seated - 1) ? seats[k] : NONE;
        }

        int seatOf(int man) {
            for (int k = 0; k < seated; k++) {
                if (seats[k] == man) {
                    return k;
                }
            }
            return NONE;
        }

        int whoSits() {
            int who = 0;
            for (int k = 0; k < seated; k++) {
                who |= 1 << seats[k];
            }
            return who;
        }

        int whoSitsBy(int man) {
            int k = seatOf(man);
            if (k == NONE) {
                return 0;
            }
            return setOn(k - 1) | setOn(k + 1);
        }

        /** Who sits on a seat, as a set: empty beyond the ends. */
        private int setOn(int k) {
            return within(k, 0, seated - 1) ? 1 << seats[k] : 0;
        }

        int lifeOfAll() {
            int life = 0;
            for (int k = 0; k < seated; k++) {
                life += lives[seats[k]];
            }
            return life;
        }

        int lossOf(int man, Roll roll) {
            int k = seatOf(man);
            return k == NONE ? 0 : roll.lossOf(man, year, setOn(k - 1), setOn(k + 1));
        }

        boolean hasPairAt(int k) {
            return within(k, 0, seated - 2);
        }

        void swapAt(int k) {
            if (hasPairAt(k)) {
                int man = seats[k];
                seats[k] = seats[k + 1];
                seats[k + 1] = man;
            }
        }

        void moveByDraw() {
            draw = (draw * 1103515245 + 12345) & LOWEST_31_BITS;
            if (seated >= 2) {
                swapAt(draw / 65536 % (seated - 1));
            }
        }

        void passYear(Roll roll) {
            int last = seated - 1;
            int left = 0;
            int before = 0;
            // Those who are left close up behind the one looked at, whose own neighbours sit as they did.
            for (int k = 0; k <= last; k++) {
                int man = seats[k];
                int after = k < last ? 1 << seats[k + 1] : 0;
                lives[man] = Math.max(0, lives[man] - roll.lossOf(man, year, before, after));
                if (lives[man] > 0) {
                    seats[left] = man;
                    left++;
                }
                before = 1 << man;
            }
            seated = left;
            year++;
        }

        void passYears(int n, Roll roll) {
            for (int y = 0; y < n; y++) {
                passYear(roll);
            }
        }
    }

    /** The benches ahead of the latest things done, in a ring: the oldest gives way. */
    private static final class Log {
        final Bench[] benches = new Bench[KNOWN];
        int known = 0;
        int next = 0;

        Log() {
            for (int b = 0; b < KNOWN; b++) {
                benches[b] = new Bench();
            }
        }

        void takeFrom(Log other) {
            for (int b = 0; b < KNOWN; b++) {
                benches[b].takeFrom(other.benches[b]);
            }
            known = other.known;
            next = other.next;
        }

        void keep(Bench bench) {
            benches[next].takeFrom(bench);
            next = (next + 1) % KNOWN;
            known = Math.min(KNOWN, known + 1);
        }

        void giveBack(Bench bench) {
            if (known > 0) {
                next = (next + KNOWN - 1) % KNOWN;
                known--;
                bench.takeFrom(benches[next]);
            }
        }

        void forget() {
            known = 0;
        }
    }

    /** All that an image keeps. */
    private static final class State {
        final Roll roll = new Roll();
        final Bench bench = new Bench();
        final Log log = new Log();

        void takeFrom(State other) {
            roll.takeFrom(other.roll);
            bench.takeFrom(other.bench);
            log.takeFrom(other.log);
        }
    }

    /** The orders in which those on a bench could sit, one behind the other by numbers, and the best seen. */
    private static final class Order {
        final int[] men = new int[MEN];
        final int[] best = new int[MEN];
        int size = 0;

        void start(Bench bench) {
            int who = bench.whoSits();
            size = 0;
            for (int man = 0; man < MEN; man++) {
                if (holds(who, man)) {
                    men[size] = man;
                    size++;
                }
            }
            keepAsBest();
        }

        void keepAsBest() {
            for (int k = 0; k < MEN; k++) {
                best[k] = men[k];
            }
        }

        int bestOn(int k) {
            return within(k, 0, size - 1) ? best[k] : NONE;
        }

        boolean isTurnedRound() {
            return size > 1 && men[0] > men[size - 1];
        }

        /** The next order by numbers; false behind the last. */
        boolean advance() {
            int rise = size - 2;
            while (rise >= 0 && men[rise] > men[rise + 1]) {
                rise--;
            }
            if (rise < 0) {
                return false;
            }
            int other = size - 1;
            while (other > rise + 1 && men[other] < men[rise]) {
                other--;
            }
            swap(rise, other);
            for (int low = rise + 1, high = size - 1; low < high; low++, high--) {
                swap(low, high);
            }
            return true;
        }

        private void swap(int k, int j) {
            int man = men[k];
            men[k] = men[j];
            men[j] = man;
        }
    }

    /** Letters, and the bench that they tell. */
    private static final class Tape {
        final char[] letters = new char[TAPE];
        int length = 0;
        final Roll roll = new Roll();
        final int[] lives = new int[MEN];
        int at = 0;
        int fault = NO_FAULT;

        void add(char letter) {
            if (length < TAPE) {
                letters[length] = letter;
                length++;
            }
        }

        /** Reads all letters into the roll and the lives: the first fault, or none. */
        int readBench() {
            at = 0;
            fault = NO_FAULT;
            roll.men = 0;
            for (int man = 0; man < MEN; man++) {
                readMan();
                if (fault != NO_FAULT || !readComma()) {
                    break;
                }
            }
            return fault;
        }

        private void readMan() {
            skipBlanks();
            int start = at;
            int kind = KIND_LETTERS.indexOf(here());
            if (kind < 0) {
                faultAt(at);
                return;
            }
            at++;
            int life = readLife();
            if (fault != NO_FAULT) {
                return;
            }
            skipBlanks();
            if (here() == '.') {
                at++;
                readPlaces();
            } else if (roll.isTakenAtAnyHour(roll.men)) {
                faultAt(start);
            } else {
                roll.placeNextByNumber();
            }
            if (fault == NO_FAULT && roll.men < MEN) {
                lives[roll.men] = life;
                roll.admit(kind);
            }
        }

        private int readLife() {
            skipBlanks();
            int start = at;
            if (!isDigit()) {
                faultAt(at);
                return 0;
            }
            int life = readDigit();
            if (isDigit()) {
                life = 10 * life + readDigit();
            }
            if (!within(life, 1, MOST_LIFE)) {
                faultAt(start);
            }
            return life;
        }

        private void readPlaces() {
            for (int hour = 0; hour < HOURS; hour++) {
                skipBlanks();
                if (!isDigit() || roll.isTaken(hour, here() - '0')) {
                    faultAt(at);
                    return;
                }
                roll.placeNext(hour, readDigit());
            }
        }

        /** Whether a comma tells of one man more; false at the end, too. */
        private boolean readComma() {
            skipBlanks();
            if (at >= length) {
                return false;
            }
            if (here() != ',' || roll.men >= MEN) {
                faultAt(at);
                return false;
            }
            at++;
            return true;
        }

        private void faultAt(int place) {
            fault = FAULT - place;
        }

        private void skipBlanks() {
            while (at < length && here() == ' ') {
                at++;
            }
        }

        /** The letter looked at; behind the end one that can stand nowhere. */
        private char here() {
            return at >= 0 && at < length && at < TAPE ? letters[at] : (char) 0;
        }

        private boolean isDigit() {
            return within(here(), '0', '9');
        }

        private int readDigit() {
            int digit = here() - '0';
            at++;
            return digit;
        }
    }

    /** Nothing, or a row of a lane; the items stand as longs already cut to the lane. */
    private static final class Sheet {
        boolean isThere = false;
        int lane = 0;
        int length = 0;
        final long[] items = new long[ITEMS];

        void renew(int newLane, int newLength) {
            isThere = true;
            lane = newLane;
            length = newLength;
            for (int i = 0; i < ITEMS; i++) {
                items[i] = 0;
            }
        }

        boolean spans(int i, int n) {
            return i >= 0 && n >= 0 && i <= length - n;
        }

        /** Why n items from i on can't be taken as of a lane; 0 if they can. */
        int refusalOf(int asLane, int i, int n) {
            if (!isThere) {
                return NULL;
            }
            if (lane != asLane) {
                return CAST;
            }
            return spans(i, n) ? 0 : INDEX;
        }

        void put(int i, long v) {
            if (within(i, 0, length - 1)) {
                items[i] = cut(v);
            }
        }

        private long cut(long v) {
            switch (lane) {
                case 0: return (byte) v;
                case 1: return (short) v;
                case 2: return (int) v;
                default: return v;
            }
        }
    }
}
