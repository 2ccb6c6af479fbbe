/** Promises 6 and 7: type, read. */
final class TextTest {
    private static final Checks CHECKS = new Checks();

    public static void main(String[] args) {
        letters();
        benches();
        faults();
        blanks();
        inPlaceOfAll();
        CHECKS.end();
    }

    private static void letters() {
        BattleBench x = new BattleBench();
        CHECKS.due("below", x.type(31), -1);
        CHECKS.due("above", x.type(127), -1);
        CHECKS.due("far below", x.type(Integer.MIN_VALUE), -1);
        CHECKS.due("by its lowest bits alone", x.type(112 + 65536), -1);
        CHECKS.due("the first", x.type(32), 1);
        CHECKS.due("the last", x.type(126), 2);
        CHECKS.due("at fault", x.read(), -21);
        for (int n = 1; n <= 70; n++) {
            CHECKS.due("letter " + n, x.type(' '), n);
        }
        CHECKS.due("full", x.type(' '), -3);
        CHECKS.due("bad ahead of full", x.type(31), -1);
        CHECKS.due("blanks to the end", x.read(), -90);
        CHECKS.due("empty then", x.type(' '), 1);
    }

    private static void text(String text, int want) {
        BattleBench x = Checks.bench("u7");
        CHECKS.due("'" + text + "'", Checks.read(x, text), want);
        if (want < 0) {
            CHECKS.due("all else stays: men", x.count(0), 1);
            CHECKS.due("all else stays: kind", x.of(0, 0), 2);
            CHECKS.due("all else stays: life", x.of(0, 1), 7);
        }
        CHECKS.due("the tape is empty", x.read(), -20);
    }

    private static void benches() {
        text("p1", 1);
        text("p60", 1);
        text("p01", 1);
        text("p5,h5,u5,d5,r5,p5", 6);
        text("p5.999", 1);
        text("p5.012,h5.120,u5.201", 3);
        BattleBench x = Checks.bench("p10,h22,u33,d44.987,r60,p07");
        int[] kinds = {0, 1, 2, 3, 4, 0};
        int[] lives = {10, 22, 33, 44, 60, 7};
        for (int man = 0; man < 6; man++) {
            CHECKS.due("kind " + man, x.of(man, 0), kinds[man]);
            CHECKS.due("life " + man, x.of(man, 1), lives[man]);
            CHECKS.due("seat " + man, x.of(man, 2), man);
            for (int hour = 0; hour < 3; hour++) {
                CHECKS.due("place " + man, x.of(man, 3 + hour), man == 3 ? 9 - hour : man);
            }
        }
    }

    private static void faults() {
        text("", -20);
        text("x", -20);
        text("P5", -20);
        text("5", -20);
        text(",", -20);
        text(".", -20);
        text("p", -21);
        text("px", -21);
        text("p,", -21);
        text("p.123", -21);
        text("p0", -21);
        text("p00", -21);
        text("p61", -21);
        text("p99", -21);
        text("p0.123", -21);
        text("p060", -23);
        text("p600", -23);
        text("p610", -21);
        text("p5x", -22);
        text("p5p5", -22);
        text("p5.", -23);
        text("p5.x", -23);
        text("p5.1,", -24);
        text("p5.12", -25);
        text("p5.12x", -25);
        text("p5.1234", -26);
        text("p5.123.", -26);
        text("p5,", -23);
        text("p5,,", -23);
        text("p5,x", -23);
        text("p5,h", -24);
        text("p5,h0", -24);
        text("p1,p2,p3,p4,p5,p6,", -37);
        text("p1,p2,p3,p4,p5,p6,p7", -37);
        text("p1,p2,p3,p4,p5,p6x", -37);
        text("p5.012,h5.0", -30);
        text("p5.012,h5.110", -31);
        text("p5.012,h5.132", -32);
        text("p5,h5.0", -26);
        text("p5,h5.120,p7", -28);
        text("p5,h5.123,p7", -30);
        // A place by the number that is taken is a fault at the kind, when life is well and no places are told.
        text("p5.100,p7", -27);
        text("p5.010,p7", -27);
        text("p5.001,p7", -27);
        text("p5.001,p7,x", -27);
        text("p5.001,p7x", -27);
        text("p5.001,p77", -28);
        text("p5.001,p", -28);
        text("p5.001,p7.", -30);
        text("p5.001,p7.110", 2);
        text("p5.001,p7 .110", 2);
        text("p5.001,p7.111", -32);
        text("p5.222,p7,h8", -30);
        text("p5.222,p7,  h8", -32);
    }

    private static void blanks() {
        text("  p  5  .  2  0  3  ,  h  6  ", 2);
        text("  p  5  .  1  2  3  ,  h  6  ", -43);
        text(" ", -21);
        text("p ", -22);
        text(" x", -21);
        text("p 0", -22);
        text("p 6 1", -24);
        text("p6 0", -23);
        text("p 61", -22);
        text("p5.1 2 ", -27);
        text("p5 , ", -25);
        text("p5  x", -24);
        BattleBench x = Checks.bench("p 1 . 4 5 6 ");
        CHECKS.due("life", x.of(0, 1), 1);
        CHECKS.due("place at 0", x.of(0, 3), 4);
        CHECKS.due("place at 1", x.of(0, 4), 5);
        CHECKS.due("place at 2", x.of(0, 5), 6);
    }

    private static void inPlaceOfAll() {
        BattleBench x = Checks.bench("p9,p9,p9");
        x.sheet(1, 2, 3);
        x.seed(77);
        x.image();
        x.move(0);
        x.years(3);
        CHECKS.due("told", Checks.read(x, "h4,d6"), 2);
        CHECKS.due("men", x.count(0), 2);
        CHECKS.due("in order of numbers", Checks.seats(x), 901);
        CHECKS.due("year", x.count(2), 0);
        CHECKS.due("life of all", x.count(4), 10);
        CHECKS.due("nothing to be undone", x.count(6), 0);
        CHECKS.due("nor undone", x.undo(), -4);
        CHECKS.due("the draw stays", x.seed(77), 77);
        CHECKS.due("no third man", x.of(2, 0), -1);
        CHECKS.due("who stood by whom is found anew", x.of(1, 6), 1);
        CHECKS.due("sheets stay", x.drop(1), 3);
        CHECKS.due("the image stays", x.restore(), 1);
        CHECKS.due("with three", x.count(0), 3);

        x = Checks.bench("p9,p9,p9");
        x.move(0);
        CHECKS.due("at fault", Checks.read(x, "h4,d6,"), -26);
        CHECKS.due("seats stay", Checks.seats(x), 9102);
        CHECKS.due("what may be undone stays", x.count(6), 1);
        CHECKS.due("who stood by whom stays", x.of(1, 6), 5);
    }
}
