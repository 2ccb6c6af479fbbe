import java.util.ArrayList;
import java.util.Arrays;
import java.util.Collections;
import java.util.List;
import java.util.Random;

/** Long runs of calls, each answer beside that of a slow model written from the document alone. */
final class ModelTest {
    private static final int RUNS = 300;
    private static final int CALLS = 320;

    public static void main(String[] args) {
        Checks checks = new Checks();
        for (int run = 0; run < RUNS; run++) {
            new Run(run, checks).go();
        }
        checks.end();
    }

    /** What a year changes: never altered, always made anew. */
    record Now(List<Integer> lives, List<Integer> seats, int year, long draw) {
        Now withSeats(List<Integer> other) {
            return new Now(lives, List.copyOf(other), year, draw);
        }

        Now withLife(int man, int life) {
            List<Integer> other = new ArrayList<>(lives);
            other.set(man, life);
            return new Now(List.copyOf(other), seats, year, draw);
        }

        Now withDraw(long other) {
            return new Now(lives, seats, year, other);
        }

        boolean areBeside(int a, int b) {
            int p = seats.indexOf(a);
            int q = seats.indexOf(b);
            return p >= 0 && q >= 0 && Math.abs(p - q) == 1;
        }

        int life() {
            return lives.stream().mapToInt(Integer::intValue).sum();
        }
    }

    /** All that an image keeps. */
    record All(List<Integer> kinds, List<List<Integer>> places, Now now, List<Now> past) {
        boolean stoodBy(int a, int b) {
            for (int hour = 0; hour < 3; hour++) {
                int[] ranks = ranks(hour);
                if (a != b && Math.abs(ranks[a] - ranks[b]) == 1) {
                    return true;
                }
            }
            return false;
        }

        private int[] ranks(int hour) {
            int[] ranks = new int[kinds.size()];
            for (int man = 0; man < ranks.length; man++) {
                for (int other = 0; other < ranks.length; other++) {
                    if (places.get(other).get(hour) < places.get(man).get(hour)) {
                        ranks[man]++;
                    }
                }
            }
            return ranks;
        }

        int wrong(List<Integer> row) {
            int wrong = 0;
            for (int k = 0; k + 1 < row.size(); k++) {
                wrong += stoodBy(row.get(k), row.get(k + 1)) ? 0 : 1;
            }
            return wrong;
        }

        int fails(Now at, int man) {
            int seat = at.seats.indexOf(man);
            if (seat < 0) {
                return 0;
            }
            int hale = at.year % 2 == 0 ? 2 : 0;
            boolean isEnd = seat == 0 || seat == at.seats.size() - 1;
            int friends = 0;
            for (int other : at.seats) {
                friends += at.areBeside(man, other) && stoodBy(man, other) ? 1 : 0;
            }
            return new int[] {2, hale, 4, hale + (isEnd ? 1 : 0), 4 - friends}[kinds.get(man)];
        }

        Now year(Now at) {
            List<Integer> lives = new ArrayList<>();
            for (int man = 0; man < kinds.size(); man++) {
                lives.add(Math.max(0, at.lives.get(man) - fails(at, man)));
            }
            List<Integer> seats = new ArrayList<>(at.seats);
            seats.removeIf(man -> lives.get(man) == 0);
            return new Now(List.copyOf(lives), List.copyOf(seats), at.year + 1, at.draw);
        }

        Now years(Now at, int n) {
            Now then = at;
            for (int y = 0; y < n; y++) {
                then = year(then);
            }
            return then;
        }

        All done(Now then) {
            List<Now> more = new ArrayList<>(past);
            more.add(now);
            return new All(kinds, places, then, List.copyOf(more.subList(Math.max(0, more.size() - 8), more.size())));
        }

        All withNow(Now then) {
            return new All(kinds, places, then, past);
        }

        All withKind(int man, int kind) {
            List<Integer> other = new ArrayList<>(kinds);
            other.set(man, kind);
            return new All(other, places, now, past);
        }
    }

    static int set(List<Integer> row) {
        int set = 0;
        for (int member : row) {
            set += 1 << member;
        }
        return set;
    }

    static List<List<Integer>> orders(List<Integer> row) {
        List<Integer> sorted = new ArrayList<>(row);
        Collections.sort(sorted);
        List<List<Integer>> all = new ArrayList<>();
        if (sorted.isEmpty()) {
            all.add(List.of());
        }
        for (int first : sorted) {
            List<Integer> rest = new ArrayList<>(sorted);
            rest.remove(Integer.valueOf(first));
            for (List<Integer> tail : orders(rest)) {
                List<Integer> order = new ArrayList<>();
                order.add(first);
                order.addAll(tail);
                all.add(order);
            }
        }
        return all;
    }

    /** The class as the document tells it, without any thought of speed. */
    static final class Model {
        All all = new All(List.of(), List.of(), new Now(List.of(), List.of(), 0, 1), List.of());
        All image = null;
        StringBuilder tape = new StringBuilder();
        long[][] sheets = new long[4][];
        int[] lanes = new int[4];

        int men() {
            return all.kinds.size();
        }

        boolean isMan(int man) {
            return man >= 0 && man < men();
        }

        static boolean in(int v, int least, int most) {
            return least <= v && v <= most;
        }

        int man(int kind, int life) {
            if (!in(kind, 0, 4) || !in(life, 1, 60)) {
                return -1;
            }
            if (men() == 6) {
                return -3;
            }
            int number = men();
            for (List<Integer> row : all.places) {
                if (row.contains(number)) {
                    return -2;
                }
            }
            join(kind, life, List.of(number, number, number));
            return number;
        }

        void join(int kind, int life, List<Integer> where) {
            List<Integer> kinds = new ArrayList<>(all.kinds);
            List<List<Integer>> places = new ArrayList<>(all.places);
            List<Integer> lives = new ArrayList<>(all.now.lives);
            List<Integer> seats = new ArrayList<>(all.now.seats);
            seats.add(men());
            kinds.add(kind);
            places.add(where);
            lives.add(life);
            all = new All(kinds, places, new Now(lives, seats, all.now.year, all.now.draw), List.of());
        }

        int stood(int man, int hour, int place) {
            if (!isMan(man) || !in(hour, 0, 2) || !in(place, 0, 9)) {
                return -1;
            }
            for (List<Integer> row : all.places) {
                if (row.get(hour) == place) {
                    return -2;
                }
            }
            List<List<Integer>> places = new ArrayList<>(all.places);
            List<Integer> row = new ArrayList<>(places.get(man));
            int before = row.set(hour, place);
            places.set(man, row);
            all = new All(all.kinds, places, all.now, all.past);
            return before;
        }

        int of(int man, int what) {
            if (!isMan(man) || !in(what, 0, 8)) {
                return -1;
            }
            List<Integer> stood = new ArrayList<>();
            List<Integer> sits = new ArrayList<>();
            for (int other = 0; other < men(); other++) {
                if (all.stoodBy(man, other)) {
                    stood.add(other);
                }
                if (all.now.areBeside(man, other)) {
                    sits.add(other);
                }
            }
            int seat = all.now.seats.indexOf(man);
            List<Integer> row = all.places.get(man);
            int[] answers = {all.kinds.get(man), all.now.lives.get(man), seat < 0 ? -4 : seat,
                row.get(0), row.get(1), row.get(2), set(stood), set(sits), all.fails(all.now, man)};
            return answers[what];
        }

        int seat(int k) {
            return k < 0 ? -1 : on(all.now.seats, k);
        }

        static int on(List<Integer> row, int k) {
            return k < row.size() ? row.get(k) : -4;
        }

        int type(int letter) {
            if (!in(letter, 32, 126)) {
                return -1;
            }
            if (tape.length() == 70) {
                return -3;
            }
            tape.append((char) letter);
            return tape.length();
        }

        /** The letters that are no blanks, and where each stood; where the next begins tells of blanks between. */
        int read() {
            String text = tape.toString();
            tape.setLength(0);
            List<Integer> at = new ArrayList<>();
            StringBuilder dense = new StringBuilder();
            for (int i = 0; i < text.length(); i++) {
                if (text.charAt(i) != ' ') {
                    at.add(i);
                    dense.append(text.charAt(i));
                }
            }
            at.add(text.length());
            at.add(text.length());
            dense.append('\n').append('\n');
            Model told = new Model();
            int p = 0;
            while (true) {
                int start = p;
                int kind = "phudr".indexOf(dense.charAt(p));
                if (kind < 0) {
                    return -20 - at.get(p);
                }
                p++;
                int number = p;
                if (!Character.isDigit(dense.charAt(p))) {
                    return -20 - at.get(p);
                }
                p++;
                if (Character.isDigit(dense.charAt(p)) && at.get(p) == at.get(p - 1) + 1) {
                    p++;
                }
                int life = Integer.parseInt(dense.substring(number, p));
                if (!in(life, 1, 60)) {
                    return -20 - at.get(number);
                }
                int me = told.men();
                List<Integer> where = new ArrayList<>(List.of(me, me, me));
                if (dense.charAt(p) == '.') {
                    p++;
                    for (int hour = 0; hour < 3; hour++, p++) {
                        if (!Character.isDigit(dense.charAt(p)) || told.isTaken(hour, dense.charAt(p) - '0')) {
                            return -20 - at.get(p);
                        }
                        where.set(hour, dense.charAt(p) - '0');
                    }
                } else if (told.isTaken(0, me) || told.isTaken(1, me) || told.isTaken(2, me)) {
                    return -20 - at.get(start);
                }
                told.join(kind, life, where);
                if (dense.charAt(p) == '\n') {
                    break;
                }
                if (dense.charAt(p) != ',' || told.men() == 6) {
                    return -20 - at.get(p);
                }
                p++;
            }
            all = told.all.withNow(told.all.now.withDraw(all.now.draw));
            return men();
        }

        boolean isTaken(int hour, int place) {
            return all.places.stream().anyMatch(row -> row.get(hour) == place);
        }

        int count(int what) {
            Now now = all.now;
            int[] answers = {men(), now.seats.size(), now.year, set(now.seats), now.life(),
                all.wrong(now.seats), all.past.size()};
            return in(what, 0, 6) ? answers[what] : -1;
        }

        int years(int n) {
            if (!in(n, 1, 40)) {
                return -1;
            }
            if (all.now.year + n > 9999) {
                return -3;
            }
            for (int y = 0; y < n; y++) {
                all = all.done(all.year(all.now));
            }
            return set(all.now.seats);
        }

        int move(int k) {
            if (k < 0 || k > all.now.seats.size() - 2) {
                return -1;
            }
            all = all.done(moved(all.now, k));
            return all.now.seats.get(k);
        }

        static Now moved(Now at, int k) {
            List<Integer> seats = new ArrayList<>(at.seats);
            Collections.swap(seats, k, k + 1);
            return at.withSeats(seats);
        }

        int nurse(int man, int n) {
            if (!isMan(man) || !in(n, 1, 60)) {
                return -1;
            }
            if (!all.now.seats.contains(man)) {
                return -2;
            }
            all = all.done(all.now.withLife(man, Math.min(60, all.now.lives.get(man) + n)));
            return all.now.lives.get(man);
        }

        int drift(int n) {
            if (!in(n, 1, 40)) {
                return -1;
            }
            if (all.now.year + n > 9999) {
                return -3;
            }
            for (int y = 0; y < n; y++) {
                long draw = (all.now.draw * 1103515245L + 12345L) % (1L << 31);
                Now then = all.now.withDraw(draw);
                if (then.seats.size() >= 2) {
                    then = moved(then, (int) (draw / 65536 % (then.seats.size() - 1)));
                }
                all = all.done(all.year(then));
            }
            return set(all.now.seats);
        }

        int undo() {
            int known = all.past.size();
            if (known == 0) {
                return -4;
            }
            all = new All(all.kinds, all.places, all.past.get(known - 1), all.past.subList(0, known - 1));
            return known - 1;
        }

        int seed(int v) {
            if (v < 0) {
                return -1;
            }
            int before = (int) all.now.draw;
            all = all.withNow(all.now.withDraw(v));
            return before;
        }

        int ahead(int man, int n) {
            return isMan(man) && in(n, 0, 60) ? all.years(all.now, n).lives.get(man) : -1;
        }

        int then(int n) {
            return in(n, 0, 60) ? set(all.years(all.now, n).seats) : -1;
        }

        int ends(int man) {
            if (!isMan(man)) {
                return -1;
            }
            for (int n = 0; n <= 60; n++) {
                if (!all.years(all.now, n).seats.contains(man)) {
                    return n;
                }
            }
            return -4;
        }

        int lonely() {
            for (int n = 0; n <= 60; n++) {
                if (all.years(all.now, n).seats.size() <= 1) {
                    return n;
                }
            }
            return -4;
        }

        int close(int man, int other) {
            if (!isMan(man) || !isMan(other) || man == other) {
                return -1;
            }
            for (int n = 0; n <= 60; n++) {
                if (all.years(all.now, n).areBeside(man, other)) {
                    return n;
                }
            }
            return -4;
        }

        List<Integer> placesBySeat(int hour) {
            List<Integer> row = new ArrayList<>();
            for (int man : all.now.seats) {
                row.add(all.places.get(man).get(hour));
            }
            return row;
        }

        /** By sorting, one change at a time. */
        int swaps(int hour) {
            if (!in(hour, 0, 2)) {
                return -1;
            }
            List<Integer> row = placesBySeat(hour);
            int made = 0;
            for (int round = 0; round < row.size(); round++) {
                for (int k = 0; k + 1 < row.size(); k++) {
                    if (row.get(k) > row.get(k + 1)) {
                        Collections.swap(row, k, k + 1);
                        made++;
                    }
                }
            }
            return made;
        }

        int stay(int hour, int what) {
            if (!in(hour, 0, 2) || !in(what, 0, 1)) {
                return -1;
            }
            List<Integer> row = placesBySeat(hour);
            List<Integer> best = List.of();
            String bestName = "";
            for (int seats = 0; seats < 1 << row.size(); seats++) {
                List<Integer> who = new ArrayList<>();
                StringBuilder name = new StringBuilder();
                int last = -1;
                boolean isRising = true;
                for (int k = 0; k < row.size(); k++) {
                    if ((seats >> k & 1) == 1) {
                        isRising &= row.get(k) > last;
                        last = row.get(k);
                        who.add(all.now.seats.get(k));
                        name.append(k);
                    }
                }
                boolean isBetter = who.size() > best.size()
                    || who.size() == best.size() && name.toString().compareTo(bestName) < 0;
                if (isRising && isBetter) {
                    best = who;
                    bestName = name.toString();
                }
            }
            return what == 0 ? best.size() : set(best);
        }

        int ways() {
            int ways = 0;
            for (List<Integer> order : orders(all.now.seats)) {
                ways += all.wrong(order) == 0 ? 1 : 0;
            }
            return ways;
        }

        int ease(int k) {
            if (k < -1) {
                return -1;
            }
            List<Integer> best = null;
            for (List<Integer> order : orders(all.now.seats)) {
                if (best == null || all.wrong(order) < all.wrong(best)) {
                    best = order;
                }
            }
            return k == -1 ? all.wrong(best) : on(best, k);
        }

        int left(int n, int k) {
            if (!in(n, 0, 30) || k < -2) {
                return -1;
            }
            List<Integer> best = null;
            Now bestThen = null;
            for (List<Integer> order : orders(all.now.seats)) {
                Now then = all.years(all.now.withSeats(order), n);
                if (best == null || then.seats.size() > bestThen.seats.size()
                        || then.seats.size() == bestThen.seats.size() && then.life() > bestThen.life()) {
                    best = order;
                    bestThen = then;
                }
            }
            return k == -1 ? bestThen.seats.size() : k == -2 ? bestThen.life() : on(best, k);
        }

        int winter(int m, int c, int what) {
            if (!in(m, 0, 6) || !in(c, 0, 10) || !in(what, 0, 1)) {
                return -1;
            }
            long above = chances(all.now.seats, 0, new ArrayList<>(), m, c);
            long below = Math.round(Math.pow(10, all.now.seats.size()));
            for (long d = 2; d <= 5; d += 3) {
                while (above % d == 0 && below % d == 0) {
                    above /= d;
                    below /= d;
                }
            }
            return (int) (what == 0 ? above : below);
        }

        private long chances(List<Integer> seats, int k, List<Integer> alive, int m, int c) {
            if (k == seats.size()) {
                return alive.size() >= m && all.wrong(alive) == 0 ? 1 : 0;
            }
            long dies = c * chances(seats, k + 1, alive, m, c);
            List<Integer> more = new ArrayList<>(alive);
            more.add(seats.get(k));
            return dies + (10 - c) * chances(seats, k + 1, more, m, c);
        }

        int image() {
            image = all;
            return 1;
        }

        int restore() {
            if (image == null) {
                return -4;
            }
            all = image;
            return 1;
        }

        int refusal(int sheet, int lane, int i, int n) {
            if (sheets[sheet] == null) {
                return -11;
            }
            if (lanes[sheet] != lane) {
                return -12;
            }
            return i < 0 || n < 0 || (long) i + n > sheets[sheet].length ? -13 : 0;
        }

        int failed(int man, int sheet, int lane, int i, int n, int what) {
            if (!isMan(man) || !in(sheet, 0, 3) || !in(lane, 0, 3) || !in(n, 1, 8) || !in(what, 0, 2)) {
                return -1;
            }
            if (refusal(sheet, lane, i, n) != 0) {
                return refusal(sheet, lane, i, n);
            }
            if (!all.now.seats.contains(man)) {
                return -2;
            }
            long[] row = Arrays.copyOfRange(sheets[sheet], i, i + n);
            List<Integer> kinds = new ArrayList<>();
            for (int kind = 0; kind < 5; kind++) {
                if (Arrays.equals(row, told(all.withKind(man, kind), all.now, man, n))) {
                    kinds.add(kind);
                }
            }
            List<Integer> lives = new ArrayList<>();
            for (int life = 1; life <= 60; life++) {
                if (Arrays.equals(row, told(all, all.now.withLife(man, life), man, n))) {
                    lives.add(life);
                }
            }
            return what == 0 ? set(kinds) : what == 1 ? lives.size() : lives.isEmpty() ? -4 : lives.get(0);
        }

        static long[] told(All all, Now from, int man, int n) {
            long[] row = new long[n];
            for (int y = 0; y < n; y++) {
                row[y] = all.years(from, y + 1).lives.get(man);
            }
            return row;
        }

        int film(int man, int n, int sheet, int lane, int i) {
            if (!isMan(man) || !in(n, 1, 24) || !in(sheet, 0, 3) || !in(lane, 0, 3)) {
                return -1;
            }
            if (refusal(sheet, lane, i, n) != 0) {
                return refusal(sheet, lane, i, n);
            }
            System.arraycopy(told(all, all.now, man, n), 0, sheets[sheet], i, n);
            return n;
        }

        int sheet(int sheet, int lane, int n) {
            if (!in(sheet, 0, 3) || !in(lane, 0, 3) || n > 24) {
                return -1;
            }
            if (n < 0) {
                return -14;
            }
            sheets[sheet] = new long[n];
            lanes[sheet] = lane;
            return n;
        }

        int drop(int sheet) {
            if (!in(sheet, 0, 3)) {
                return -1;
            }
            long[] row = sheets[sheet];
            sheets[sheet] = null;
            return row == null ? -11 : row.length;
        }

        int item(int sheet, int lane, int i, long v) {
            if (!in(sheet, 0, 3) || !in(lane, 0, 3)) {
                return -1;
            }
            if (refusal(sheet, lane, i, 1) != 0) {
                return refusal(sheet, lane, i, 1);
            }
            int off = new int[] {56, 48, 32, 0}[lane];
            sheets[sheet][i] = v << off >> off;
            return 1;
        }

        int copy(int from, int i, int to, int j, int n) {
            if (!in(from, 0, 3) || !in(to, 0, 3)) {
                return -1;
            }
            if (sheets[from] == null || sheets[to] == null) {
                return -11;
            }
            if (lanes[from] != lanes[to]) {
                return -12;
            }
            if (refusal(from, lanes[from], i, n) != 0 || refusal(to, lanes[to], j, n) != 0) {
                return -13;
            }
            long[] taken = Arrays.copyOfRange(sheets[from], i, i + n);
            System.arraycopy(taken, 0, sheets[to], j, n);
            return n;
        }
    }

    /** One object beside one model. */
    static final class Run {
        private final int run;
        private final Checks checks;
        private final Random random;
        private final BattleBench x = new BattleBench();
        private final Model y = new Model();

        Run(int run, Checks checks) {
            this.run = run;
            this.checks = checks;
            this.random = new Random(run);
        }

        void go() {
            for (int call = 0; call < CALLS; call++) {
                one(random.nextInt(46));
            }
        }

        /** A number from least to most; now and then one beside them, or far off. */
        private int pick(int least, int most) {
            int sort = random.nextInt(60);
            if (sort == 0) {
                return least - 1;
            }
            if (sort == 1) {
                return most + 1;
            }
            if (sort == 2) {
                return random.nextInt();
            }
            if (sort == 3) {
                return random.nextBoolean() ? Integer.MAX_VALUE : Integer.MIN_VALUE;
            }
            return least + random.nextInt(most - least + 1);
        }

        private int aMan() {
            return pick(0, Math.max(0, y.men() - 1));
        }

        private void due(String call, int got, int want) {
            checks.due("run " + run + ": " + call, got, want);
        }

        private String bench() {
            StringBuilder text = new StringBuilder();
            int men = 1 + random.nextInt(6);
            List<List<Integer>> free = new ArrayList<>();
            for (int hour = 0; hour < 3; hour++) {
                List<Integer> places = new ArrayList<>(List.of(0, 1, 2, 3, 4, 5, 6, 7, 8, 9));
                Collections.shuffle(places, random);
                free.add(places);
            }
            boolean arePlacesTold = random.nextInt(4) > 0;
            for (int man = 0; man < men; man++) {
                text.append(man > 0 ? "," : "").append("phudr".charAt(random.nextInt(5)));
                text.append(1 + random.nextInt(60));
                if (arePlacesTold && random.nextInt(9) > 0) {
                    text.append('.');
                    for (int hour = 0; hour < 3; hour++) {
                        text.append(free.get(hour).get(man));
                    }
                }
            }
            for (int faults = random.nextInt(8) - 5; faults > 0; faults--) {
                int at = random.nextInt(text.length() + 1);
                if (at < text.length() && random.nextBoolean()) {
                    text.deleteCharAt(at);
                }
                text.insert(Math.min(at, text.length()), "phudr,.0123456789x  ".charAt(random.nextInt(20)));
            }
            return text.toString();
        }

        private void one(int which) {
            int a = aMan();
            int b = aMan();
            switch (which) {
                case 0: case 1: case 2: tellMan(); break;
                case 3: case 4: {
                    int hour = pick(0, 2);
                    int place = pick(0, 9);
                    due("stood", x.stood(a, hour, place), y.stood(a, hour, place));
                    break;
                }
                case 5: case 6: case 7: {
                    int what = pick(0, 8);
                    due("of " + a + " " + what, x.of(a, what), y.of(a, what));
                    break;
                }
                case 8: {
                    int k = pick(0, 6);
                    due("seat " + k, x.seat(k), y.seat(k));
                    break;
                }
                case 9: tellBench(); break;
                case 10: case 11: {
                    int what = pick(0, 6);
                    due("count " + what, x.count(what), y.count(what));
                    break;
                }
                case 12: case 13: case 14: done(pick(1, random.nextInt(9) == 0 ? 40 : 3)); break;
                case 15: case 16: case 17: {
                    int k = pick(0, 4);
                    due("move " + k, x.move(k), y.move(k));
                    break;
                }
                case 18: case 19: case 20: case 21: {
                    int n = pick(1, 60);
                    due("nurse " + a + " " + n, x.nurse(a, n), y.nurse(a, n));
                    break;
                }
                case 22: case 23: due("undo", x.undo(), y.undo()); break;
                case 24: {
                    int v = random.nextInt() >> random.nextInt(9);
                    due("seed " + v, x.seed(v), y.seed(v));
                    break;
                }
                case 25: due("ends " + a, x.ends(a), y.ends(a)); break;
                case 26: due("lonely", x.lonely(), y.lonely()); break;
                case 27: due("close " + a + " " + b, x.close(a, b), y.close(a, b)); break;
                default: more(which, a); break;
            }
        }

        private void tellMan() {
            int kind = pick(0, 4);
            int life = pick(1, 60);
            due("man " + kind + " " + life, x.man(kind, life), y.man(kind, life));
        }

        private void tellBench() {
            if (random.nextInt(3) > 0) {
                return;
            }
            String text = bench();
            for (int i = 0; i < text.length(); i++) {
                due("type " + text, x.type(text.charAt(i)), y.type(text.charAt(i)));
            }
            int odd = pick(32, 126);
            if (random.nextInt(20) == 0) {
                due("type " + odd, x.type(odd), y.type(odd));
            }
            due("read " + text, x.read(), y.read());
        }

        private void done(int n) {
            if (random.nextBoolean()) {
                due("years " + n, x.years(n), y.years(n));
            } else {
                due("drift " + n, x.drift(n), y.drift(n));
            }
        }

        private void more(int which, int a) {
            switch (which) {
                case 28: case 29: {
                    int hour = pick(0, 2);
                    int what = pick(0, 1);
                    due("swaps " + hour, x.swaps(hour), y.swaps(hour));
                    due("stay " + hour + " " + what, x.stay(hour, what), y.stay(hour, what));
                    break;
                }
                case 30: due("ways", x.ways(), y.ways()); break;
                case 31: {
                    int k = pick(-1, 6);
                    due("ease " + k, x.ease(k), y.ease(k));
                    break;
                }
                case 32: {
                    int n = pick(0, 30);
                    int k = pick(-2, 6);
                    if (random.nextInt(4) == 0) {
                        due("left " + n + " " + k, x.left(n, k), y.left(n, k));
                    }
                    break;
                }
                case 33: case 34: {
                    int m = pick(0, 6);
                    int c = pick(0, 10);
                    int what = pick(0, 1);
                    due("winter " + m + " " + c + " " + what, x.winter(m, c, what), y.winter(m, c, what));
                    break;
                }
                case 35: due("image", x.image(), y.image()); break;
                case 36: due("restore", x.restore(), y.restore()); break;
                case 37: {
                    int n = pick(0, 60);
                    due("ahead " + a + " " + n, x.ahead(a, n), y.ahead(a, n));
                    due("then " + n, x.then(n), y.then(n));
                    break;
                }
                default: sheets(which, a); break;
            }
        }

        private void sheets(int which, int a) {
            int s = pick(0, 3);
            int lane = s >= 0 && s < 4 && random.nextInt(8) > 0 ? y.lanes[s] : pick(0, 3);
            int i = pick(0, 12);
            switch (which) {
                case 38: case 39: {
                    int n = pick(0, 24);
                    int own = random.nextInt(5) > 0 ? 2 : pick(0, 3);
                    due("sheet " + s + " " + own + " " + n, x.sheet(s, own, n), y.sheet(s, own, n));
                    break;
                }
                case 40: {
                    if (random.nextInt(3) == 0) {
                        due("drop " + s, x.drop(s), y.drop(s));
                    }
                    break;
                }
                case 41: {
                    long v = random.nextBoolean() ? random.nextLong() : random.nextInt(60);
                    due("item " + s + " " + lane + " " + i + " " + v, x.item(s, lane, i, v), y.item(s, lane, i, v));
                    break;
                }
                case 42: {
                    int to = pick(0, 3);
                    int j = pick(0, 12);
                    int n = pick(0, 12);
                    due("copy " + s + " " + i + " " + to + " " + j + " " + n,
                        x.copy(s, i, to, j, n), y.copy(s, i, to, j, n));
                    break;
                }
                default: tellAndLook(s, lane, i, a); break;
            }
        }

        /** A film of one, looked at at once, so that some rows are as he fails. */
        private void tellAndLook(int s, int lane, int i, int a) {
            int n = pick(1, 24);
            due("film " + a + " " + n + " " + s + " " + lane + " " + i,
                x.film(a, n, s, lane, i), y.film(a, n, s, lane, i));
            for (int what = -1; what <= 3; what++) {
                int told = pick(1, 8);
                int who = random.nextInt(3) == 0 ? aMan() : a;
                due("failed " + who + " " + s + " " + lane + " " + i + " " + told + " " + what,
                    x.failed(who, s, lane, i, told, what), y.failed(who, s, lane, i, told, what));
            }
        }
    }
}
