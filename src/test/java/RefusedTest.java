import java.util.ArrayList;
import java.util.List;

/**
 * "What is refused changes nothing, but as told.", and what is foretold or looked at changes nothing either: of two
 * objects made alike one has the call more; then all that can be seen of both must be the same.
 */
final class RefusedTest {
    private static final Checks CHECKS = new Checks();
    private static final int BAD = -1, NOT = -2, FULL = -3, NONE = -4, NULL = -11, CAST = -12, INDEX = -13, SIZE = -14;

    /** A call to be made on one of the two objects. */
    interface Call {
        int on(BattleBench x);
    }

    /** How an object is made. */
    interface Making {
        BattleBench make();
    }

    public static void main(String[] args) {
        CHECKS.sentence("What is refused changes nothing, but as told.");
        menRefused();
        doneRefused();
        sheetsRefused();
        refusedWhenFull();
        refusedInTheLastYear();
        refusedWithoutMen();
        CHECKS.sentence("A FAULT (all else stays).");
        benchesAtFault();
        CHECKS.sentence("FORETOLD from now (nothing is changed)");
        foretold();
        lookedAt();
        CHECKS.end();
    }

    /** Four men, man 1 of them dead; things to be undone, an image, three sheets, letters on the tape. */
    private static BattleBench usual() {
        BattleBench x = Checks.bench("p30.350,h2.014,d17.673,r28.186");
        x.seed(9);
        x.years(2);
        x.image();
        x.nurse(0, 9);
        x.move(1);
        x.drift(2);
        x.stood(0, 2, 7);
        x.sheet(1, 1, 5);
        x.sheet(2, 2, 8);
        x.sheet(3, 1, 0);
        x.item(1, 1, 2, 7);
        x.film(3, 8, 2, 2, 0);
        Checks.type(x, "p5,");
        return x;
    }

    private static BattleBench full() {
        BattleBench x = Checks.bench("p9.666,p8,p7,p6,p5,p4");
        x.move(2);
        x.image();
        x.nurse(1, 1);
        for (int n = 0; n < 70; n++) {
            x.type('p');
        }
        return x;
    }

    private static BattleBench inTheLastYear() {
        BattleBench x = new BattleBench();
        for (int n = 0; n < 249; n++) {
            x.years(40);
        }
        x.years(35);
        x.man(0, 60);
        x.man(1, 60);
        x.seed(3);
        x.years(2);
        x.image();
        return x;
    }

    private static void refused(String call, Making making, Call one, int want) {
        BattleBench x = making.make();
        BattleBench y = making.make();
        CHECKS.due(call, one.on(x), want);
        same(call, x, y);
    }

    private static void changesNothing(String call, Making making, Call one) {
        BattleBench x = making.make();
        BattleBench y = making.make();
        int first = one.on(x);
        CHECKS.due(call + " again", one.on(x), first);
        same(call, x, y);
    }

    private static void same(String call, BattleBench x, BattleBench y) {
        List<Long> got = seen(x);
        List<Long> want = seen(y);
        CHECKS.due(call + ": as much is seen", got.size(), want.size());
        for (int i = 0; i < Math.min(got.size(), want.size()); i++) {
            CHECKS.due(call + ": what is seen, number " + i, got.get(i), want.get(i));
        }
    }

    /** All that can be seen of an object; it is used up by that. */
    private static List<Long> seen(BattleBench x) {
        List<Long> seen = new ArrayList<>();
        bench(x, seen);
        sheets(x, seen);
        for (int n = 0; n <= 8; n++) {
            seen.add((long) x.undo());
            changing(x, seen);
        }
        seen.add((long) x.restore());
        bench(x, seen);
        seen.add((long) x.undo());
        changing(x, seen);
        seen.add((long) x.type('x'));
        seen.add((long) x.read());
        return seen;
    }

    private static void bench(BattleBench x, List<Long> seen) {
        for (int what = 0; what <= 6; what++) {
            seen.add((long) x.count(what));
        }
        for (int man = 0; man < 6; man++) {
            seen.add((long) x.of(man, 0));
            for (int what = 3; what <= 6; what++) {
                seen.add((long) x.of(man, what));
            }
        }
        changing(x, seen);
    }

    private static void changing(BattleBench x, List<Long> seen) {
        seen.add((long) Checks.seats(x));
        seen.add(Checks.lives(x));
        seen.add((long) x.count(2));
        int draw = x.seed(0);
        x.seed(draw);
        seen.add((long) draw);
    }

    /** What stands in an item is told by the least life by which man 0, who is plain, would fail so. */
    private static void sheets(BattleBench x, List<Long> seen) {
        for (int s = 0; s < 4; s++) {
            for (int lane = 0; lane < 4; lane++) {
                for (int i = 0; i < 8 && x.count(0) > 0; i++) {
                    int least = x.failed(0, s, lane, i, 1, 2);
                    seen.add((long) least);
                    if (least == NULL || least == CAST) {
                        break;
                    }
                }
            }
            seen.add((long) x.drop(s));
        }
    }

    private static void menRefused() {
        Making usual = RefusedTest::usual;
        refused("man, kind", usual, x -> x.man(5, 9), BAD);
        refused("man, life", usual, x -> x.man(0, 61), BAD);
        refused("man, NOT: man 1 stood at place 4", usual, x -> x.man(0, 9), NOT);
        refused("stood, man", usual, x -> x.stood(4, 0, 9), BAD);
        refused("stood, hour", usual, x -> x.stood(0, 3, 9), BAD);
        refused("stood, place", usual, x -> x.stood(0, 0, 10), BAD);
        refused("stood, himself", usual, x -> x.stood(0, 0, 3), NOT);
        refused("stood, another", usual, x -> x.stood(0, 0, 6), NOT);
        refused("of, man", usual, x -> x.of(4, 0), BAD);
        refused("of, what", usual, x -> x.of(0, 9), BAD);
        refused("of, no seat", usual, x -> x.of(1, 2), NONE);
        refused("seat", usual, x -> x.seat(-1), BAD);
        refused("seat, nobody", usual, x -> x.seat(3), NONE);
        refused("type", usual, x -> x.type(127), BAD);
        refused("count", usual, x -> x.count(7), BAD);
    }

    private static void doneRefused() {
        Making usual = RefusedTest::usual;
        refused("years 0", usual, x -> x.years(0), BAD);
        refused("years 41", usual, x -> x.years(41), BAD);
        refused("move below", usual, x -> x.move(-1), BAD);
        refused("move above", usual, x -> x.move(2), BAD);
        refused("nurse, man", usual, x -> x.nurse(4, 1), BAD);
        refused("nurse 0", usual, x -> x.nurse(0, 0), BAD);
        refused("nurse 61", usual, x -> x.nurse(0, 61), BAD);
        refused("nurse, the dead", usual, x -> x.nurse(1, 1), NOT);
        refused("drift 0", usual, x -> x.drift(0), BAD);
        refused("drift 41", usual, x -> x.drift(41), BAD);
        refused("seed", usual, x -> x.seed(-1), BAD);
        refused("undo, none is known", () -> {
            BattleBench x = usual();
            x.read();
            Checks.read(x, "p9,h9");
            return x;
        }, x -> x.undo(), NONE);
        refused("restore, there is none", () -> {
            BattleBench x = Checks.bench("p9,h9");
            x.years(2);
            return x;
        }, x -> x.restore(), NONE);
    }

    private static void sheetsRefused() {
        Making usual = RefusedTest::usual;
        refused("failed, BAD", usual, x -> x.failed(0, 2, 2, 0, 9, 0), BAD);
        refused("failed, NULL", usual, x -> x.failed(0, 0, 0, 0, 1, 0), NULL);
        refused("failed, CAST", usual, x -> x.failed(0, 2, 1, 0, 1, 0), CAST);
        refused("failed, INDEX", usual, x -> x.failed(0, 2, 2, 1, 8, 0), INDEX);
        refused("failed, NOT", usual, x -> x.failed(1, 2, 2, 0, 8, 0), NOT);
        refused("film, BAD", usual, x -> x.film(0, 25, 2, 2, 0), BAD);
        refused("film, NULL", usual, x -> x.film(0, 1, 0, 0, 0), NULL);
        refused("film, CAST", usual, x -> x.film(0, 1, 2, 1, 0), CAST);
        refused("film, INDEX behind items that are there", usual, x -> x.film(0, 8, 2, 2, 1), INDEX);
        refused("film, INDEX ahead of items that are there", usual, x -> x.film(0, 8, 2, 2, -1), INDEX);
        refused("sheet, BAD", usual, x -> x.sheet(1, 4, 2), BAD);
        refused("sheet, too long", usual, x -> x.sheet(1, 1, 25), BAD);
        refused("sheet, SIZE", usual, x -> x.sheet(1, 1, -1), SIZE);
        refused("drop, BAD", usual, x -> x.drop(4), BAD);
        refused("drop, NULL", usual, x -> x.drop(0), NULL);
        refused("item, BAD", usual, x -> x.item(1, 4, 0, 9), BAD);
        refused("item, NULL", usual, x -> x.item(0, 0, 0, 9), NULL);
        refused("item, CAST", usual, x -> x.item(1, 0, 0, 9), CAST);
        refused("item, INDEX", usual, x -> x.item(1, 1, 5, 9), INDEX);
        refused("item, INDEX below", usual, x -> x.item(1, 1, -1, 9), INDEX);
        refused("copy, BAD", usual, x -> x.copy(1, 0, 4, 0, 1), BAD);
        refused("copy, NULL", usual, x -> x.copy(1, 0, 0, 0, 1), NULL);
        refused("copy, CAST", usual, x -> x.copy(1, 0, 2, 0, 1), CAST);
        refused("copy, INDEX of the first", usual, x -> x.copy(1, 4, 1, 0, 2), INDEX);
        refused("copy, INDEX of the other", usual, x -> x.copy(1, 2, 1, 3, 3), INDEX);
        refused("copy, none below 0", usual, x -> x.copy(1, 2, 1, 0, -1), INDEX);
    }

    private static void refusedWhenFull() {
        Making full = RefusedTest::full;
        refused("man, FULL", full, x -> x.man(0, 9), FULL);
        refused("type, FULL", full, x -> x.type(' '), FULL);
    }

    private static void refusedInTheLastYear() {
        Making last = RefusedTest::inTheLastYear;
        refused("years, FULL", last, x -> x.years(3), FULL);
        refused("drift, FULL", last, x -> x.drift(3), FULL);
        BattleBench x = inTheLastYear();
        CHECKS.due("two are not", x.drift(2), 3);
    }

    private static void refusedWithoutMen() {
        Making empty = BattleBench::new;
        refused("stood", empty, x -> x.stood(0, 0, 5), BAD);
        refused("nurse", empty, x -> x.nurse(0, 5), BAD);
        refused("move", empty, x -> x.move(0), BAD);
        refused("undo", empty, x -> x.undo(), NONE);
        refused("film", empty, x -> x.film(0, 1, 0, 0, 0), BAD);
        refused("failed", empty, x -> x.failed(0, 0, 0, 0, 1, 0), BAD);
    }

    /** But for the tape, which is empty then. */
    private static void benchesAtFault() {
        String[] texts = {"", "x", "p5,", "p5,h6.777,x", "h1.111,u2.222,d3.333,r4.444,p5.555,p6.66", "p5.111,h5"};
        int[] faults = {-20, -20, -23, -30, -60, -27};
        for (int t = 0; t < texts.length; t++) {
            String text = texts[t];
            Making usual = () -> {
                BattleBench x = usual();
                x.read();
                return x;
            };
            refused("read " + text, usual, x -> Checks.read(x, text), faults[t]);
        }
    }

    private static void foretold() {
        Making usual = RefusedTest::usual;
        changesNothing("ahead", usual, x -> x.ahead(0, 60));
        changesNothing("then", usual, x -> x.then(60));
        changesNothing("ends", usual, x -> x.ends(0));
        changesNothing("lonely", usual, x -> x.lonely());
        changesNothing("close", usual, x -> x.close(0, 2));
        changesNothing("swaps", usual, x -> x.swaps(1));
        changesNothing("stay", usual, x -> x.stay(1, 1));
        changesNothing("ways", usual, x -> x.ways());
        changesNothing("ease", usual, x -> x.ease(1));
        changesNothing("left", usual, x -> x.left(30, 1));
        changesNothing("life left", usual, x -> x.left(3, -2));
        changesNothing("winter", usual, x -> x.winter(2, 3, 0));
        changesNothing("failed, kinds", usual, x -> x.failed(3, 2, 2, 0, 8, 0));
        changesNothing("failed, how many", usual, x -> x.failed(3, 2, 2, 0, 8, 1));
        changesNothing("failed, the least", usual, x -> x.failed(3, 2, 2, 0, 8, 2));
        changesNothing("film of the same", usual, x -> x.film(3, 8, 2, 2, 0));
    }

    private static void lookedAt() {
        Making usual = RefusedTest::usual;
        for (int what = 0; what <= 8; what++) {
            int looked = what;
            changesNothing("of " + what, usual, x -> x.of(0, looked));
            changesNothing("count " + what, usual, x -> x.count(looked));
        }
        changesNothing("seat", usual, x -> x.seat(0));
        changesNothing("copy of none", usual, x -> x.copy(1, 0, 1, 3, 0));
    }
}
