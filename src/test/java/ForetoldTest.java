/** Promises 15 to 25: ahead, then, ends, lonely, close, swaps, stay, ways, ease, left, winter. */
final class ForetoldTest {
    private static final Checks CHECKS = new Checks();

    public static void main(String[] args) {
        lives();
        firsts();
        orders();
        ways();
        ease();
        left();
        winters();
        nothingIsChanged();
        CHECKS.end();
    }

    private static void lives() {
        BattleBench x = Checks.bench("p5,h6,r9");
        CHECKS.due("no such man", x.ahead(3, 0), -1);
        CHECKS.due("man below", x.ahead(-1, 0), -1);
        CHECKS.due("years below", x.ahead(0, -1), -1);
        CHECKS.due("years above", x.ahead(0, 61), -1);
        CHECKS.due("then below", x.then(-1), -1);
        CHECKS.due("then above", x.then(61), -1);
        int[][] lives = {{5, 6, 9}, {3, 4, 6}, {1, 4, 3}, {0, 2, 0}, {0, 2, 0}, {0, 0, 0}};
        int[] who = {7, 7, 7, 2, 2, 0};
        for (int n = 0; n < lives.length; n++) {
            for (int man = 0; man < 3; man++) {
                CHECKS.due("ahead " + man + " " + n, x.ahead(man, n), lives[n][man]);
            }
            CHECKS.due("then " + n, x.then(n), who[n]);
        }
        CHECKS.due("the last", x.then(60), 0);
        CHECKS.due("then by itself", x.then(2), 7);
        CHECKS.due("and again", x.then(3), 2);
        x = Checks.bench("h60");
        CHECKS.due("hale at last", x.ahead(0, 58), 2);
        CHECKS.due("hale ends", x.ends(0), 59);
        x.years(1);
        x.nurse(0, 60);
        CHECKS.due("from an odd year", x.ahead(0, 59), 2);
        CHECKS.due("to the very end", x.ahead(0, 60), 0);
        CHECKS.due("the last that can be", x.ends(0), 60);
    }

    private static void firsts() {
        BattleBench x = Checks.bench("p4,u4,p9,p6");
        CHECKS.due("ends: no such man", x.ends(4), -1);
        CHECKS.due("ends: below", x.ends(-1), -1);
        CHECKS.due("ends 0", x.ends(0), 2);
        CHECKS.due("ends 1", x.ends(1), 1);
        CHECKS.due("lonely", x.lonely(), 3);
        CHECKS.due("now", x.close(0, 1), 0);
        CHECKS.due("the other way", x.close(1, 0), 0);
        CHECKS.due("when one between is dead", x.close(0, 2), 1);
        CHECKS.due("likewise", x.close(2, 0), 1);
        CHECKS.due("never", x.close(0, 3), -4);
        CHECKS.due("alike", x.close(2, 2), -1);
        CHECKS.due("no such", x.close(0, 4), -1);
        CHECKS.due("nor", x.close(4, 0), -1);
        CHECKS.due("below", x.close(-1, 0), -1);
        CHECKS.due("other below", x.close(0, -1), -1);
        x.years(1);
        CHECKS.due("dead now", x.ends(1), 0);
        CHECKS.due("with the dead", x.close(0, 1), -4);
        CHECKS.due("lonely then", x.lonely(), 2);
        CHECKS.due("one", Checks.bench("p9").lonely(), 0);
        CHECKS.due("nobody", new BattleBench().lonely(), 0);
        CHECKS.due("two who die at once", Checks.bench("p4,p4").lonely(), 2);
        x = Checks.bench("h60,h60");
        x.years(1);
        x.nurse(0, 60);
        x.nurse(1, 60);
        CHECKS.due("the last that can be", x.lonely(), 60);
    }

    private static void orders() {
        BattleBench x = Checks.bench("p9.345,p9.016,p9.987,p9.678,p9.109,p2.234");
        CHECKS.due("swaps above", x.swaps(3), -1);
        CHECKS.due("swaps below", x.swaps(-1), -1);
        CHECKS.due("stay above", x.stay(3, 0), -1);
        CHECKS.due("stay below", x.stay(-1, 0), -1);
        CHECKS.due("stay what above", x.stay(0, 2), -1);
        CHECKS.due("stay what below", x.stay(0, -1), -1);
        CHECKS.due("3 0 9 6 1 2", x.swaps(0), 8);
        CHECKS.due("4 1 8 7 0 3", x.swaps(1), 3 + 1 + 3 + 2);
        CHECKS.due("5 6 7 8 9 4", x.swaps(2), 5);
        CHECKS.due("0 1 2 stay", x.stay(0, 0), 3);
        CHECKS.due("who", x.stay(0, 1), 2 | 16 | 32);
        CHECKS.due("two of them", x.stay(1, 0), 2);
        CHECKS.due("4 8 is the first", x.stay(1, 1), 1 | 4);
        CHECKS.due("all but the last", x.stay(2, 0), 5);
        CHECKS.due("these", x.stay(2, 1), 31);
        x.years(1);
        CHECKS.due("the dead are of no matter", x.swaps(2), 0);
        x = Checks.bench("p9.222,p9.111,p9.000");
        CHECKS.due("all turned round", x.swaps(0), 3);
        CHECKS.due("one stays", x.stay(0, 0), 1);
        CHECKS.due("the first by seats", x.stay(0, 1), 1);
        x.move(0);
        CHECKS.due("by seats, not by numbers", x.stay(0, 1), 3);
        x.move(1);
        CHECKS.due("1 2 0", x.stay(0, 0), 2);
        CHECKS.due("who are they", x.stay(0, 1), 3);
        x = new BattleBench();
        CHECKS.due("nobody swaps", x.swaps(2), 0);
        CHECKS.due("nobody stays", x.stay(2, 0), 0);
        CHECKS.due("none of them", x.stay(2, 1), 0);
    }

    private static void ways() {
        CHECKS.due("nobody", new BattleBench().ways(), 1);
        CHECKS.due("one", Checks.bench("p9").ways(), 1);
        CHECKS.due("two", Checks.bench("p9,p9").ways(), 2);
        CHECKS.due("a row and the same from behind", Checks.bench("p9,p9,p9,p9,p9,p9").ways(), 2);
        BattleBench x = Checks.bench("p9,p2,p9");
        CHECKS.due("three", x.ways(), 2);
        x.years(1);
        CHECKS.due("who is left never stood by the other", x.ways(), 0);
        x.stood(0, 1, 5);
        CHECKS.due("now they did", x.ways(), 2);
        CHECKS.due("all ways", Checks.bench("p9.012,p9.120,p9.201").ways(), 6);
    }

    private static void ease() {
        BattleBench x = new BattleBench();
        CHECKS.due("below", x.ease(-2), -1);
        CHECKS.due("far below", x.ease(Integer.MIN_VALUE), -1);
        CHECKS.due("nobody is wrong", x.ease(-1), 0);
        CHECKS.due("nobody sits", x.ease(0), -4);
        x = Checks.bench("p9.222,p9.000,p9.111,p9.333");
        CHECKS.due("none wrong", x.ease(-1), 0);
        row("1 2 0 3, not 3 0 2 1", x, -1, 91203);
        CHECKS.due("nobody there", x.ease(4), -4);
        CHECKS.due("far off", x.ease(Integer.MAX_VALUE), -4);
        x = Checks.bench("p9,p2,p9,p2,p9");
        x.move(0);
        x.years(1);
        CHECKS.due("two wrong at least", x.ease(-1), 2);
        row("the first of all", x, -1, 9024);
        x = Checks.bench("p9,p9,p2,p9");
        x.years(1);
        x.move(0);
        CHECKS.due("one wrong", x.ease(-1), 1);
        row("0 1 3", x, -1, 9013);
    }

    private static void row(String call, BattleBench x, int n, int want) {
        int row = 9;
        for (int k = 0; (n < 0 ? x.ease(k) : x.left(n, k)) >= 0; k++) {
            row = 10 * row + (n < 0 ? x.ease(k) : x.left(n, k));
        }
        CHECKS.due(call, row, want);
    }

    private static void left() {
        BattleBench x = new BattleBench();
        CHECKS.due("years below", x.left(-1, 0), -1);
        CHECKS.due("years above", x.left(31, 0), -1);
        CHECKS.due("seat below", x.left(0, -3), -1);
        CHECKS.due("nobody is left", x.left(30, -1), 0);
        CHECKS.due("no life", x.left(30, -2), 0);
        CHECKS.due("nobody sits", x.left(30, 0), -4);

        // A drummer wants to be between, and the first such order wins.
        x = Checks.bench("d9,p9,p9");
        x.move(1);
        CHECKS.due("all", x.left(1, -1), 3);
        CHECKS.due("life", x.left(1, -2), 7 + 7 + 7);
        row("1 0 2", x, 1, 9102);
        row("0 years: the first of all", x, 0, 9012);
        CHECKS.due("life of now", x.left(0, -2), 27);
        CHECKS.due("nobody there", x.left(0, 3), -4);

        // A runner wants those by him by whom he stood.
        x = Checks.bench("p9,p9,p9,r9");
        CHECKS.due("three years", x.left(3, -2), 3 + 3 + 3 + 0);
        x.stood(0, 0, 9);
        CHECKS.due("he is by two", x.left(3, -2), 3 + 3 + 3 + 3);
        row("between 0 and 2", x, 3, 90321);

        // More men go ahead of more life.
        x = Checks.bench("d3,r4,p60");
        CHECKS.due("two or three", x.left(1, -1), 3);
        row("0 is at the end or dead", x, 1, 9102);
        CHECKS.due("life then", x.left(1, -2), 1 + 1 + 58);
        CHECKS.due("all are dead", Checks.bench("p2,d2").left(30, -1), 0);
        row("and sit in the first order", Checks.bench("p2,d2"), 30, 901);
    }

    private static void winter(BattleBench x, int m, int c, int above, int below) {
        CHECKS.due("winter " + m + " " + c + " above", x.winter(m, c, 0), above);
        CHECKS.due("winter " + m + " " + c + " below", x.winter(m, c, 1), below);
    }

    private static void winters() {
        BattleBench x = new BattleBench();
        CHECKS.due("m below", x.winter(-1, 0, 0), -1);
        CHECKS.due("m above", x.winter(7, 0, 0), -1);
        CHECKS.due("c below", x.winter(0, -1, 0), -1);
        CHECKS.due("c above", x.winter(0, 11, 0), -1);
        CHECKS.due("what below", x.winter(0, 0, -1), -1);
        CHECKS.due("what above", x.winter(0, 0, 2), -1);
        winter(x, 0, 5, 1, 1);
        winter(x, 1, 5, 0, 1);
        winter(x, 6, 0, 0, 1);
        x = Checks.bench("p9,p9");
        winter(x, 0, 5, 1, 1);
        winter(x, 1, 5, 3, 4);
        winter(x, 2, 5, 1, 4);
        winter(x, 3, 5, 0, 1);
        winter(x, 2, 0, 1, 1);
        winter(x, 1, 10, 0, 1);
        winter(x, 0, 10, 1, 1);
        winter(x, 2, 3, 49, 100);
        x = Checks.bench("p9,p9,p9");
        // The one between must not be the only one who dies: 7 * 7 * 3 of 1000.
        winter(x, 0, 3, 1000 - 147, 1000);
        winter(x, 2, 3, (343 + 147 + 147), 1000);
        winter(x, 3, 3, 343, 1000);
        x = Checks.bench("p9,p9,p9,p9,p9,p9");
        winter(x, 6, 1, 531441, 1000000);
        winter(x, 6, 0, 1, 1);
        x.move(2);
        winter(x, 6, 0, 0, 1);
    }

    private static void nothingIsChanged() {
        BattleBench x = Checks.bench("p30.350,h22.014,u41.902,d17.673,r28.186,p9.248");
        x.seed(5);
        x.drift(2);
        int seats = Checks.seats(x);
        int life = x.count(4);
        x.ahead(0, 60);
        x.then(60);
        x.ends(0);
        x.lonely();
        x.close(0, 5);
        x.swaps(1);
        x.stay(1, 1);
        x.ways();
        x.ease(0);
        x.left(30, 0);
        x.winter(1, 5, 0);
        x.sheet(0, 3, 8);
        x.film(4, 8, 0, 3, 0);
        x.failed(4, 0, 3, 0, 8, 0);
        x.failed(4, 0, 3, 0, 8, 1);
        x.failed(4, 0, 3, 0, 8, 2);
        CHECKS.due("seats", Checks.seats(x), seats);
        CHECKS.due("life", x.count(4), life);
        CHECKS.due("year", x.count(2), 2);
        CHECKS.due("undo", x.count(6), 2);
        CHECKS.due("kind", x.of(4, 0), 4);
        CHECKS.due("men", x.count(0), 6);
    }
}
