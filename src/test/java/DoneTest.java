/** Promises 9 to 14, 26 and 27: years, move, nurse, drift, undo, seed, image, restore. */
final class DoneTest {
    private static final Checks CHECKS = new Checks();

    public static void main(String[] args) {
        years();
        lastYear();
        moves();
        nurses();
        drifts();
        undone();
        undoneWhateverWasTold();
        seeds();
        images();
        CHECKS.end();
    }

    private static void years() {
        BattleBench x = Checks.bench("p5,h3,u9,d5,r7");
        CHECKS.due("none", x.years(0), -1);
        CHECKS.due("below", x.years(-1), -1);
        CHECKS.due("above", x.years(41), -1);
        CHECKS.due("no year went by", x.count(2), 0);
        CHECKS.due("one", x.years(1), 31);
        CHECKS.due("by how all is ahead of it", x.count(4), 3 + 1 + 5 + 3 + 4);
        CHECKS.due("two more", x.years(2), 8);
        CHECKS.due("year", x.count(2), 3);
        CHECKS.due("each may be undone", x.count(6), 3);
        CHECKS.due("undone", x.undo(), 2);
        CHECKS.due("who", x.count(3), 31);
        CHECKS.due("all", x.years(40), 0);
        CHECKS.due("year then", x.count(2), 42);
        CHECKS.due("8 are known", x.count(6), 8);

        // Two who die in the same year were beside one another still when they failed.
        x = Checks.bench("p2,r3,p2");
        CHECKS.due("the runner had both by him", x.years(1), 2);
        CHECKS.due("life 1", x.of(1, 1), 1);
        x = Checks.bench("p2,d3,p2");
        CHECKS.due("the drummer was between", x.years(1), 2);
        CHECKS.due("life 1 of the drummer", x.of(1, 1), 1);
        CHECKS.due("then at both ends", x.years(1), 0);
    }

    private static void lastYear() {
        BattleBench x = new BattleBench();
        for (int i = 0; i < 249; i++) {
            x.years(40);
        }
        CHECKS.due("year 9960", x.count(2), 9960);
        CHECKS.due("years full", x.years(40), -3);
        CHECKS.due("drift full", x.drift(40), -3);
        CHECKS.due("bad ahead of full", x.years(41), -1);
        CHECKS.due("drift bad ahead of full", x.drift(41), -1);
        CHECKS.due("nothing was done", x.count(2), 9960);
        CHECKS.due("nor drawn", x.seed(1), 1);
        x.man(1, 2);
        CHECKS.due("to the last year", x.drift(39), 0);
        CHECKS.due("year 9999", x.count(2), 9999);
        CHECKS.due("full", x.years(1), -3);
        CHECKS.due("drift full then", x.drift(1), -3);
        x.undo();
        CHECKS.due("one more", x.years(1), 0);
        x.man(1, 2);
        CHECKS.due("foretold beyond it", x.ends(1), 2);
    }

    private static void moves() {
        BattleBench x = Checks.bench("p9,p9,p2");
        CHECKS.due("below", x.move(-1), -1);
        CHECKS.due("the last seat", x.move(2), -1);
        CHECKS.due("far off", x.move(Integer.MAX_VALUE), -1);
        CHECKS.due("nothing was done", x.count(6), 0);
        CHECKS.due("first", x.move(0), 1);
        CHECKS.due("second", x.move(1), 2);
        CHECKS.due("seats", Checks.seats(x), 9120);
        CHECKS.due("two may be undone", x.count(6), 2);
        CHECKS.due("the year stays", x.count(2), 0);
        x.years(1);
        CHECKS.due("no such two any more", x.move(1), -1);
        CHECKS.due("the two who are left", x.move(0), 0);
        CHECKS.due("on an empty bench", new BattleBench().move(0), -1);
        CHECKS.due("one alone", Checks.bench("p1").move(0), -1);
    }

    private static void nurses() {
        BattleBench x = Checks.bench("p9,p2");
        CHECKS.due("no such man", x.nurse(2, 1), -1);
        CHECKS.due("man below", x.nurse(-1, 1), -1);
        CHECKS.due("by 0", x.nurse(0, 0), -1);
        CHECKS.due("by 61", x.nurse(0, 61), -1);
        CHECKS.due("by 1", x.nurse(0, 1), 10);
        CHECKS.due("by 49", x.nurse(0, 49), 59);
        CHECKS.due("60 at most", x.nurse(0, 60), 60);
        CHECKS.due("still", x.nurse(0, 60), 60);
        CHECKS.due("each may be undone", x.count(6), 4);
        x.years(1);
        CHECKS.due("off the bench", x.nurse(1, 1), -2);
        CHECKS.due("bad ahead of not", x.nurse(1, 0), -1);
        CHECKS.due("nothing was done", x.count(6), 5);
        CHECKS.due("one is lost when it is undone", x.undo(), 4);
        CHECKS.due("he is there", x.nurse(1, 3), 5);
    }

    private static void drifts() {
        BattleBench x = Checks.bench("p60,p60,p60,p60,p60");
        CHECKS.due("none", x.drift(0), -1);
        CHECKS.due("above", x.drift(41), -1);
        CHECKS.due("below", x.drift(-5), -1);
        long draw = 1;
        int[] seats = {0, 1, 2, 3, 4};
        for (int y = 0; y < 29; y++) {
            draw = (draw * 1103515245L + 12345L) % 2147483648L;
            int k = (int) (draw / 65536 % 4);
            int man = seats[k];
            seats[k] = seats[k + 1];
            seats[k + 1] = man;
            CHECKS.due("all are there", x.drift(1), 31);
            int row = 9;
            for (int seat : seats) {
                row = 10 * row + seat;
            }
            CHECKS.due("seats behind " + y, Checks.seats(x), row);
        }
        CHECKS.due("the draw", x.seed((int) draw), draw);
        CHECKS.due("year", x.count(2), 29);
        CHECKS.due("known", x.count(6), 8);
        CHECKS.due("all gone", x.drift(40), 0);

        x = Checks.bench("p9");
        CHECKS.due("one alone", x.drift(3), 1);
        CHECKS.due("a year is one that may be undone", x.count(6), 3);
        draw = 1;
        for (int y = 0; y < 3; y++) {
            draw = (draw * 1103515245L + 12345L) % 2147483648L;
        }
        CHECKS.due("it is drawn all the same", x.seed(0), draw);
        x.drift(1);
        CHECKS.due("from 0", x.seed(0), 12345);

        // The move comes ahead of the year: the drummer is at an end already when he fails.
        x = Checks.bench("p9,d9");
        CHECKS.due("two", x.drift(1), 3);
        CHECKS.due("the drummer", x.of(1, 1), 6);
        CHECKS.due("they changed", Checks.seats(x), 910);
        x = Checks.bench("p9,d9,p9");
        x.seed(0);
        x.drift(1);
        CHECKS.due("seats", Checks.seats(x), 9102);
        CHECKS.due("the drummer was moved to the end", x.of(1, 1), 6);
        CHECKS.due("undone with its move", x.undo(), 0);
        CHECKS.due("as they sat", Checks.seats(x), 9012);
        CHECKS.due("as he was", x.of(1, 1), 9);
        CHECKS.due("the draw as it was", x.seed(0), 0);
    }

    private static void undone() {
        BattleBench x = Checks.bench("p9,h2,p9");
        CHECKS.due("none is known", x.undo(), -4);
        x.move(0);
        x.nurse(2, 5);
        x.years(1);
        CHECKS.due("one is dead", x.count(3), 5);
        CHECKS.due("the year", x.undo(), 2);
        CHECKS.due("he is back on his seat", Checks.seats(x), 9102);
        CHECKS.due("year 0", x.count(2), 0);
        CHECKS.due("life", x.of(2, 1), 14);
        CHECKS.due("nursed", x.undo(), 1);
        CHECKS.due("life then", x.of(2, 1), 9);
        CHECKS.due("moved", x.undo(), 0);
        CHECKS.due("seats", Checks.seats(x), 9012);
        CHECKS.due("no more", x.undo(), -4);
        for (int n = 1; n <= 12; n++) {
            x.nurse(0, 1);
            CHECKS.due("known behind " + n, x.count(6), Math.min(8, n));
        }
        for (int n = 7; n >= 0; n--) {
            CHECKS.due("still known", x.undo(), n);
        }
        CHECKS.due("older ones are lost", x.undo(), -4);
        CHECKS.due("four stand", x.of(0, 1), 13);
        x.nurse(0, 2);
        CHECKS.due("known again", x.count(6), 1);
        x.undo();
        CHECKS.due("undone again", x.of(0, 1), 13);
    }

    private static void undoneWhateverWasTold() {
        BattleBench x = Checks.bench("p9,p9,p9");
        x.move(0);
        CHECKS.due("told", x.stood(0, 0, 7), 0);
        x.seed(99);
        CHECKS.due("undone", x.undo(), 0);
        CHECKS.due("what was told stays", x.of(0, 3), 7);
        CHECKS.due("and whom he stood by", x.of(0, 6), 6);
        CHECKS.due("the draw is as ahead of it", x.seed(1), 1);
    }

    private static void seeds() {
        BattleBench x = new BattleBench();
        CHECKS.due("below", x.seed(-1), -1);
        CHECKS.due("far below", x.seed(Integer.MIN_VALUE), -1);
        CHECKS.due("first", x.seed(Integer.MAX_VALUE), 1);
        CHECKS.due("31 bits", x.seed(0), Integer.MAX_VALUE);
        CHECKS.due("0", x.seed(3), 0);
        CHECKS.due("nothing to be undone", x.count(6), 0);
    }

    private static void images() {
        BattleBench x = Checks.bench("p9,h5,p9");
        CHECKS.due("there is none", x.restore(), -4);
        x.move(0);
        x.years(1);
        x.seed(42);
        x.stood(0, 2, 8);
        CHECKS.due("kept", x.image(), 1);
        x.type('p');
        x.sheet(2, 1, 5);
        x.years(3);
        x.stood(0, 2, 6);
        x.man(4, 4);
        x.seed(43);
        CHECKS.due("restored", x.restore(), 1);
        CHECKS.due("men", x.count(0), 3);
        CHECKS.due("year", x.count(2), 1);
        CHECKS.due("who", Checks.seats(x), 9102);
        CHECKS.due("life", x.count(4), 7 + 3 + 7);
        CHECKS.due("place", x.of(0, 5), 8);
        CHECKS.due("stood by", x.of(0, 6), 6);
        CHECKS.due("undo", x.count(6), 2);
        CHECKS.due("the draw", x.seed(44), 42);
        CHECKS.due("the tape is no part of it", x.type('5'), 2);
        CHECKS.due("and stays", x.read(), 1);
        CHECKS.due("nor are sheets", x.drop(2), 5);
        CHECKS.due("once more", x.restore(), 1);
        CHECKS.due("undone as it was then", x.undo(), 1);
        CHECKS.due("year then", x.count(2), 0);
        CHECKS.due("undone all", x.undo(), 0);
        CHECKS.due("seats", Checks.seats(x), 9012);
        CHECKS.due("the image is not used up", x.restore(), 1);
        CHECKS.due("nor undone", x.count(6), 2);
        CHECKS.due("a later image", x.image(), 1);
        x.move(0);
        x.restore();
        CHECKS.due("is the one that is kept", Checks.seats(x), 9102);
        x = Checks.bench("p1");
        for (int n = 1; n <= 9; n++) {
            x.nurse(0, 1);
        }
        x.image();
        for (int n = 1; n <= 9; n++) {
            x.nurse(0, 5);
        }
        x.restore();
        for (int n = 8; n >= 1; n--) {
            x.undo();
            CHECKS.due("all that was known then " + n, x.of(0, 1), n + 1);
        }
        x = new BattleBench();
        CHECKS.due("an empty one", x.image(), 1);
        x.man(0, 1);
        CHECKS.due("empties", x.restore(), 1);
        CHECKS.due("all", x.count(0), 0);
        CHECKS.due("the first again", x.man(3, 7), 0);
    }
}
