/** Each sentence of the document's Terms, part 3, that names a boundary case: failed, undone, drift, texts. */
final class Terms3Test {
    private static final Checks CHECKS = new Checks();
    private static final int BAD = -1, NONE = -4;

    public static void main(String[] args) {
        failedYears();
        failedKinds();
        failedLives();
        eightAreKnown();
        asAheadOfIt();
        nothingToBeUndone();
        theDraw();
        twoOrMore();
        whoIsMoved();
        oneToSixMen();
        kindsAsLetters();
        lifeAsNumber();
        threeDigits();
        placesByNumber();
        inPlaceOfAll();
        placeThatIsTaken();
        placeByNumberThatIsTaken();
        aThirdDigit();
        firstLetterThatCannotStand();
        numberNotAsTold();
        theEnd();
        blanks();
        blanksEndANumber();
        CHECKS.end();
    }

    /** A row of bytes on sheet 0. */
    private static void row(BattleBench x, int... lives) {
        x.sheet(0, 0, lives.length);
        for (int i = 0; i < lives.length; i++) {
            x.item(0, 0, i, lives[i]);
        }
    }

    private static void failedYears() {
        CHECKS.sentence("FAILED: a row tells LIFE of one behind each of the next n YEARS (1 .. 8)");
        BattleBench x = Checks.bench("p60");
        row(x, 58, 56, 54, 52, 50, 48, 46, 44, 42);
        for (int n : Checks.outside(1, 8)) {
            CHECKS.due("years " + n, x.failed(0, 0, 0, 0, n, 0), BAD);
        }
        for (int n = 1; n <= 8; n++) {
            CHECKS.due("years " + n, x.failed(0, 0, 0, 0, n, 2), 60);
        }
        x.item(0, 0, 7, 0);
        CHECKS.due("seven are so", x.failed(0, 0, 0, 0, 7, 1), 1);
        CHECKS.due("the eighth is not", x.failed(0, 0, 0, 0, 8, 1), 0);
        row(x, 57, 56, 54);
        CHECKS.due("the first is not", x.failed(0, 0, 0, 0, 3, 1), 0);
        row(x, 58, 56, 53);
        CHECKS.due("two are so", x.failed(0, 0, 0, 0, 2, 2), 60);
        CHECKS.due("the least, too, is by all of them", x.failed(0, 0, 0, 0, 3, 2), NONE);
        CHECKS.due("and so are kinds", x.failed(0, 0, 0, 0, 3, 0), 0);
        row(x, 57, 56, 54);
        CHECKS.due("it is behind a year, not now", x.failed(0, 0, 0, 1, 1, 2), 58);
    }

    private static void failedKinds() {
        CHECKS.sentence("KINDS (a set) of him by which it would be so");
        BattleBench x = Checks.bench("p60,p40,p60");
        row(x, 37);
        CHECKS.due("none", x.failed(1, 0, 0, 0, 1, 0), 0);
        row(x, 38, 38);
        CHECKS.due("hale, drummer", x.failed(1, 0, 0, 0, 2, 0), 2 | 8);
        row(x, 36);
        CHECKS.due("hurt", x.failed(1, 0, 0, 0, 1, 0), 4);
        CHECKS.due("hurt, runner alone", alone(40, 36), 4 | 16);
        CHECKS.due("drummer alone", alone(40, 37), 8);
        CHECKS.due("all", alone(1, 0), 31);
        CHECKS.due("all but hale, plain, drummer", alone(4, 0), 4 | 16);
        CHECKS.due("a row below 0", alone(1, -1), 0);
    }

    private static int alone(int life, int behind) {
        BattleBench x = new BattleBench();
        x.man(0, life);
        row(x, behind);
        return x.failed(0, 0, 0, 0, 1, 0);
    }

    private static void failedLives() {
        CHECKS.sentence("how much LIFE (1 .. 60) he might have now: how many such numbers; the least; none.");
        BattleBench x = Checks.bench("p9");
        int[][] cases = {{0, 2, 1}, {1, 1, 3}, {57, 1, 59}, {58, 1, 60}, {59, 0, NONE}, {60, 0, NONE}, {-1, 0, NONE}};
        for (int[] one : cases) {
            row(x, one[0]);
            CHECKS.due("how many for " + one[0], x.failed(0, 0, 0, 0, 1, 1), one[1]);
            CHECKS.due("the least for " + one[0], x.failed(0, 0, 0, 0, 1, 2), one[2]);
        }
        x = Checks.bench("u9");
        row(x, 0);
        CHECKS.due("1 to 4", x.failed(0, 0, 0, 0, 1, 1), 4);
        x = Checks.bench("h9");
        x.years(1);
        row(x, 60);
        CHECKS.due("60 in a year without loss", x.failed(0, 0, 0, 0, 1, 2), 60);
        row(x, 0);
        CHECKS.due("no life that is above 0", x.failed(0, 0, 0, 0, 1, 2), NONE);
        row(x, 1);
        CHECKS.due("1", x.failed(0, 0, 0, 0, 1, 2), 1);
    }

    private static void eightAreKnown() {
        CHECKS.sentence("(8 are known, older ones lost)");
        for (int done = 0; done <= 18; done++) {
            BattleBench x = Checks.bench("p1");
            for (int n = 0; n < done; n++) {
                x.nurse(0, 1);
            }
            int known = Math.min(8, done);
            CHECKS.due("known behind " + done, x.count(6), known);
            for (int n = known - 1; n >= 0; n--) {
                CHECKS.due("undone of " + done, x.undo(), n);
            }
            CHECKS.due("no more of " + done, x.undo(), NONE);
            CHECKS.due("older ones stand", x.of(0, 1), 1 + done - known);
        }
        BattleBench x = Checks.bench("p60");
        x.years(9);
        CHECKS.due("years, each by itself", x.count(6), 8);
        for (int n = 0; n < 8; n++) {
            x.undo();
        }
        CHECKS.due("the first stands", x.count(2), 1);
        x.move(0);
        CHECKS.due("what is refused is none", x.count(6), 0);
    }

    private static void asAheadOfIt() {
        CHECKS.sentence("LIVES, THE BENCH, the YEAR, THE DRAW are as ahead of it, whatever was told since");
        BattleBench x = Checks.bench("p9,p2,p9");
        x.seed(50);
        x.drift(1);
        x.seed(60);
        x.stood(0, 1, 9);
        CHECKS.due("one is off", x.count(1), 2);
        CHECKS.due("undone", x.undo(), 0);
        CHECKS.due("lives", Checks.lives(x), 9090209);
        CHECKS.due("the bench", Checks.seats(x), 9012);
        CHECKS.due("the year", x.count(2), 0);
        CHECKS.due("the draw", x.seed(1), 50);
        CHECKS.due("what was told stays", x.of(0, 4), 9);
        CHECKS.due("and whom he stood by", x.of(0, 6), 6);
        for (int what = 0; what < 3; what++) {
            x = Checks.bench("p9,p9");
            x.seed(70);
            CHECKS.due("done", what == 0 ? x.move(0) : what == 1 ? x.nurse(0, 1) - 9 : x.years(1) - 2, 1);
            x.seed(80);
            x.undo();
            CHECKS.due("the draw as ahead of it", x.seed(1), 70);
        }
    }

    private static void nothingToBeUndone() {
        CHECKS.sentence("a BENCH told, a new man leave nothing to be UNDONE.");
        BattleBench x = Checks.bench("p9,p9");
        CHECKS.due("a bench was told", x.undo(), NONE);
        x.move(0);
        x.man(0, 9);
        CHECKS.due("a new man", x.count(6), 0);
        CHECKS.due("none", x.undo(), NONE);
        CHECKS.due("what was done stands", Checks.seats(x), 9102);
        x.years(1);
        Checks.read(x, "p5");
        CHECKS.due("a bench", x.count(6), 0);
        CHECKS.due("none is known", x.undo(), NONE);
        CHECKS.due("it stands", x.of(0, 1), 5);
        x.nurse(0, 1);
        CHECKS.due("what is done then may be", x.undo(), 0);
        x.nurse(0, 1);
        Checks.read(x, "p0");
        x.man(0, 0);
        x.stood(0, 0, 9);
        x.seed(7);
        x.image();
        CHECKS.due("all else forgets nothing", x.count(6), 1);
    }

    private static long next(long draw) {
        return (draw * 1103515245L + 12345L) % (1L << 31);
    }

    private static void theDraw() {
        CHECKS.sentence("THE DRAW is a number of 31 bits (1 at first)");
        CHECKS.due("1 at first", new BattleBench().seed(0), 1);
        int[] seeds = {0, 1, 2, 3, 65535, 65536, 1073741823, 1073741824, Integer.MAX_VALUE - 1, Integer.MAX_VALUE};
        for (int seed : seeds) {
            BattleBench x = new BattleBench();
            x.seed(seed);
            x.drift(1);
            CHECKS.due("behind " + seed, x.seed(seed), next(seed));
            x.drift(3);
            CHECKS.due("three behind " + seed, x.seed(0), next(next(next(seed))));
        }
        for (int seed : new int[] {-1, -2, Integer.MIN_VALUE}) {
            CHECKS.due("below 0", new BattleBench().seed(seed), BAD);
        }
        CHECKS.sentence("ahead of each YEAR of a DRIFT it becomes the lowest 31 bits");
        BattleBench x = Checks.bench("p60,p60");
        x.years(3);
        x.move(0);
        x.nurse(0, 1);
        CHECKS.due("by a drift alone", x.seed(1), 1);
    }

    private static void twoOrMore() {
        CHECKS.sentence("if there are two on THE BENCH, or more, they are MOVED");
        BattleBench x = Checks.bench("p60");
        x.drift(2);
        CHECKS.due("one stays", Checks.seats(x), 90);
        x = Checks.bench("p60,p60");
        for (int y = 1; y <= 6; y++) {
            x.drift(1);
            CHECKS.due("two change each year", Checks.seats(x), y % 2 == 1 ? 910 : 901);
        }
        x = Checks.bench("p60,p2");
        x.drift(3);
        CHECKS.due("then one alone", Checks.seats(x), 90);
        CHECKS.due("it is drawn for him, too", x.seed(1), next(next(next(1))));
        x = new BattleBench();
        CHECKS.due("nobody", x.drift(2), 0);
        CHECKS.due("it is drawn for nobody", x.seed(1), next(next(1)));
    }

    private static void whoIsMoved() {
        CHECKS.sentence("on SEAT k, it by 65536, left over by one less than there are, and the next one.");
        for (int men = 2; men <= 6; men++) {
            boolean[] seen = new boolean[men];
            for (int seed = 0; seed < 40; seed++) {
                BattleBench x = new BattleBench();
                int row = 9;
                int k = (int) (next(seed) / 65536 % (men - 1));
                for (int man = 0; man < men; man++) {
                    x.man(0, 9);
                    row = 10 * row + (man == k ? man + 1 : man == k + 1 ? man - 1 : man);
                }
                seen[k] = true;
                x.seed(seed);
                x.drift(1);
                CHECKS.due(men + " by seed " + seed, Checks.seats(x), row);
            }
            CHECKS.due("the first two were moved", seen[0] ? 1 : 0, 1);
            CHECKS.due("the last two were moved", seen[men - 2] ? 1 : 0, 1);
        }
        // How many there are is looked at ahead of each year: three, then two.
        BattleBench x = Checks.bench("p60,p2,p60");
        x.drift(1);
        int before = Checks.seats(x);
        x.drift(1);
        CHECKS.due("the two who are left", Checks.seats(x), before == 902 ? 920 : 902);
    }

    /** A text read by an object that has one man: the answer, what stays at a fault, and that the tape is empty. */
    private static void text(String text, int want) {
        BattleBench x = Checks.bench("u7");
        CHECKS.due("'" + text + "'", Checks.read(x, text), want);
        if (want < 0) {
            CHECKS.due("'" + text + "' men stay", x.count(0), 1);
            CHECKS.due("'" + text + "' kinds stay", x.of(0, 0), 2);
            CHECKS.due("'" + text + "' lives stay", x.of(0, 1), 7);
        } else {
            CHECKS.due("'" + text + "' men", x.count(0), want);
        }
        CHECKS.due("'" + text + "' is gone", x.type('p'), 1);
    }

    private static void oneToSixMen() {
        CHECKS.sentence("A BENCH is a TEXT: 1 to 6 MEN with , between");
        text("", -20);
        text("p1", 1);
        text("p1,p2", 2);
        text("p1,p2,p3,p4,p5", 5);
        text("p1,p2,p3,p4,p5,p6", 6);
        text("p1,p2,p3,p4,p5,p6,p7", -37);
        text("p1,p2,p3,p4,p5,p6,", -37);
        text("p1p2", -22);
        text("p1;p2", -22);
        text(",p1", -20);
        text("p1,", -23);
        text("p1,,p2", -23);
        text("p10.111,p20.222,p30.333,p40.444,p50.555,p60.666", 6);
        text("p 10 . 1 1 1 , p 20 . 2 2 2, p 30 . 333, p 40 . 444,p50.555,p60.666  ", 6);
    }

    private static void kindsAsLetters() {
        CHECKS.sentence("p h u d r (PLAIN, HALE, HURT, DRUMMER, RUNNER)");
        for (int letter = 33; letter <= 126; letter++) {
            String text = (char) letter + "9";
            int kind = "phudr".indexOf(letter);
            BattleBench x = new BattleBench();
            CHECKS.due(text, Checks.read(x, text), kind < 0 ? -20 : 1);
            CHECKS.due(text + " of kind", x.of(0, 0), kind < 0 ? BAD : kind);
            BattleBench y = new BattleBench();
            CHECKS.due("p5," + text, Checks.read(y, "p5," + text), kind < 0 ? -23 : 2);
        }
    }

    private static void lifeAsNumber() {
        CHECKS.sentence("a number 1 .. 60 (LIFE)");
        for (int life = 0; life <= 99; life++) {
            String text = "h" + life;
            BattleBench x = new BattleBench();
            CHECKS.due(text, Checks.read(x, text), life >= 1 && life <= 60 ? 1 : -21);
            CHECKS.due("life of " + text, x.of(0, 1), life >= 1 && life <= 60 ? life : BAD);
        }
        text("h00", -21);
        text("h01", 1);
        text("h09", 1);
        for (int letter = 33; letter <= 126; letter++) {
            if (letter < '0' || letter > '9') {
                text("p" + (char) letter, -21);
            }
        }
    }

    private static void threeDigits() {
        CHECKS.sentence("then perhaps three digits (PLACES at HOURS 0, 1, 2");
        text("p5.", -23);
        text("p5.0", -24);
        text("p5.09", -25);
        text("p5.090", 1);
        text("p5.0909", -26);
        text("p5.999", 1);
        text("p5.,h5", -23);
        text("p5.0,h5", -24);
        text("p5.09,h5", -25);
        text("p5..", -23);
        text("p5.090.", -26);
        text("p5/090", -22);
        text("p5.0/0", -24);
        text("p5.0:0", -24);
        BattleBench x = Checks.bench("p5.908");
        CHECKS.due("hour 0", x.of(0, 3), 9);
        CHECKS.due("hour 1", x.of(0, 4), 0);
        CHECKS.due("hour 2", x.of(0, 5), 8);
    }

    private static void placesByNumber() {
        CHECKS.sentence("else the man's number at each) behind a .");
        BattleBench x = Checks.bench("p5.789,p5,p5.897,p5,p5,p5");
        for (int hour = 0; hour <= 2; hour++) {
            for (int man = 3; man <= 5; man++) {
                CHECKS.due("place of " + man, x.of(man, 3 + hour), man);
            }
            CHECKS.due("place of 1", x.of(1, 3 + hour), 1);
            CHECKS.due("told for 0", x.of(0, 3 + hour), 7 + hour);
        }
        CHECKS.due("told for 2", x.of(2, 3), 8);
    }

    private static void inPlaceOfAll() {
        CHECKS.sentence("in place of all, THE BENCH in order of numbers, YEAR 0 (THE DRAW stays).");
        BattleBench x = Checks.bench("p9.789,p2,p9,p9");
        x.seed(77);
        x.move(2);
        x.years(3);
        CHECKS.due("read", Checks.read(x, "h4,d6"), 2);
        CHECKS.due("men", x.count(0), 2);
        CHECKS.due("no third", x.of(2, 0), BAD);
        CHECKS.due("lives", Checks.lives(x), 90406);
        CHECKS.due("in order of numbers", Checks.seats(x), 901);
        CHECKS.due("year", x.count(2), 0);
        CHECKS.due("place", x.of(0, 3), 0);
        CHECKS.due("whom he stood by", x.of(1, 6), 1);
        CHECKS.due("the draw stays", x.seed(1), 77);
        CHECKS.due("the third comes again", x.man(0, 9), 2);
        x = Checks.bench("p9.000,p9.999,p9.555,p9.444,p9.333,p9.222");
        Checks.read(x, "p9.000,p9.999");
        CHECKS.due("those of before stand between no longer", x.of(0, 6), 2);
    }

    private static void placeThatIsTaken() {
        CHECKS.sentence("A PLACE that one told before has at that HOUR is a FAULT at its digit");
        text("p5.345,h5.345", -30);
        text("p5.345,h5.645", -31);
        text("p5.345,h5.665", -32);
        text("p5.345,h5.453", 2);
        text("p5,h5.012", -26);
        text("p5,h5.102", -27);
        text("p5,h5.120", -28);
        text("p5,h5.111", 2);
        text("p5.999,h5,u5.9", -33);
        text("p5,h5,u5.9 1 8", -31);
        text("p5.3,h5.3", -24);
        text("p5.333,h5.3", -30);
        text("p5.333", 1);
    }

    private static void placeByNumberThatIsTaken() {
        CHECKS.sentence("at the letter of the KIND, if it is by the number (when LIFE is well, and no . stands behind it).");
        text("p5.199,h5", -27);
        text("p5.919,h5", -27);
        text("p5.991,h5", -27);
        text("p5.999,h5", 2);
        text("p5.222,h5,u5", -30);
        text("p5.222,h5.333,u5", -34);
        text("p5.222,  h5 ,  u5", -35);
        text("p5.111,h5,u5", -27);
        text("p5.111,h0", -28);
        text("p5.111,h61", -28);
        text("p5.111,h", -28);
        text("p5.111,hx", -28);
        text("p5.111,h5.", -30);
        text("p5.111,h5.222", 2);
        text("p5.111,h5 . 222", 2);
        text("p5.111,h5.1", -30);
        text("p5.111,h5x", -27);
        text("p5.555,h5,u5,d5,r5,p5", -39);
    }

    private static void aThirdDigit() {
        CHECKS.sentence("Numbers have 1 or 2 digits (a third one can't stand there).");
        text("p060", -23);
        text("p010", -23);
        text("p600", -23);
        text("p100", -23);
        text("p 100", -24);
        text("p5,p100", -26);
        text("p123.456", -23);
        text("p12.345", 1);
    }

    private static void firstLetterThatCannotStand() {
        CHECKS.sentence("FAULTS: -20 less the place of the first letter (behind blanks) that can't stand there");
        text("x", -20);
        text("  x", -22);
        text("xx", -20);
        text("px", -21);
        text("p  x", -23);
        text("p5x", -22);
        text("p5  x", -24);
        text("p5.x", -23);
        text("p5.  x", -25);
        text("p5.1  x", -26);
        text("p5.123x", -26);
        text("p5.123  x", -28);
        text("p5,x", -23);
        text("p5,  x,x", -25);
        text("p5p0", -22);
        text("p5px", -22);
        text("p5.123p0", -26);
        text("p0,p0", -21);
        StringBuilder long70 = new StringBuilder();
        for (int i = 0; i < 69; i++) {
            long70.append(' ');
        }
        text(long70 + "x", -89);
    }

    private static void numberNotAsTold() {
        CHECKS.sentence("or of the number's first digit, if it is not as told");
        text("p0", -21);
        text("p61", -21);
        text("p99", -21);
        text("p  0", -23);
        text("p  61  ", -23);
        text("p0,x", -21);
        text("p61x", -21);
        text("p61.123", -21);
        text("p5,p 61", -25);
        text("x61", -20);
    }

    private static void theEnd() {
        CHECKS.sentence("(the end: how many there are)");
        text("", -20);
        text("p", -21);
        text("p5,", -23);
        text("p5,h", -24);
        text("p5.", -23);
        text("p5.12", -25);
        text(" ", -21);
        text("p  ", -23);
        text("p5,  ", -25);
        text("p5.  ", -25);
        text("p5.12  ", -27);
        StringBuilder blanks = new StringBuilder("p5,");
        for (int i = 3; i < 70; i++) {
            blanks.append(' ');
        }
        text(blanks.toString(), -90);
        text("p5" + blanks.substring(3), 1);
    }

    private static void blanks() {
        CHECKS.sentence("blanks count for nothing");
        text("  p5", 1);
        text("p  5", 1);
        text("p5  ", 1);
        text("p5  .012", 1);
        text("p5.  0  1  2  ", 1);
        text("p5  ,  h6", 2);
        BattleBench x = Checks.bench("  d  42  .  7  8  9  ,  r  7  ");
        CHECKS.due("kind", x.of(0, 0), 3);
        CHECKS.due("life", x.of(0, 1), 42);
        CHECKS.due("hour 0", x.of(0, 3), 7);
        CHECKS.due("hour 1", x.of(0, 4), 8);
        CHECKS.due("hour 2", x.of(0, 5), 9);
        CHECKS.due("the other", x.of(1, 1), 7);
    }

    private static void blanksEndANumber() {
        CHECKS.sentence("but end a number.");
        text("p1 2", -23);
        text("p1  2", -24);
        text("p6 1", -23);
        text("p0 5", -21);
        text("p12 3", -24);
        text("p5,h1 2", -26);
        text("p5.111,h1 2", -27);
        text("p1 .234", 1);
    }
}
