/** Each sentence of the document's Terms, part 2, that names a boundary case: what is foretold, orders, odds. */
final class Terms2Test {
    private static final Checks CHECKS = new Checks();
    private static final int BAD = -1, NONE = -4;
    /** Six of whom each stood by each other one: three rows with no pair twice. */
    private static final String ALL_STOOD_BY = "p9.024,p9.102,p9.310,p9.531,p9.453,p9.245";

    public static void main(String[] args) {
        behindYears();
        ends();
        lonely();
        close();
        closeNever();
        wrong();
        swaps();
        stay();
        theFirstRowThatStays();
        ways();
        ease();
        easeTheFirst();
        leftYears();
        leftMost();
        leftLife();
        leftFirst();
        winterBounds();
        winterLeft();
        winterCloseUp();
        lowestTerms();
        CHECKS.end();
    }

    private static void behindYears() {
        CHECKS.sentence("behind n YEARS (0 .. 60) LIFE of one; who is on THE BENCH (a set).");
        BattleBench x = Checks.bench("p60,h60,p1");
        for (int n : Checks.outside(0, 60)) {
            CHECKS.due("ahead " + n, x.ahead(0, n), BAD);
            CHECKS.due("then " + n, x.then(n), BAD);
        }
        CHECKS.due("0 is now", x.ahead(0, 0), 60);
        CHECKS.due("and so is who is there", x.then(0), 7);
        CHECKS.due("1", x.ahead(0, 1), 58);
        CHECKS.due("one less", x.then(1), 3);
        CHECKS.due("29", x.ahead(0, 29), 2);
        CHECKS.due("30", x.ahead(0, 30), 0);
        CHECKS.due("the other is there still", x.then(58), 2);
        CHECKS.due("59", x.then(59), 0);
        CHECKS.due("60", x.then(60), 0);
        CHECKS.due("life behind 60", x.ahead(1, 60), 0);
        x.years(1);
        CHECKS.due("of the dead", x.ahead(2, 0), 0);
        CHECKS.due("from now", x.ahead(0, 1), 56);
        x.nurse(1, 60);
        CHECKS.due("behind 59 from an odd year", x.then(59), 2);
        CHECKS.due("and 60", x.then(60), 0);
    }

    private static void ends() {
        CHECKS.sentence("ENDS of one: the first of 0 to 60 YEARS behind which he is off it; none.");
        BattleBench x = Checks.bench("p1,p2,p3,h60,r9,u60");
        int[] first = {1, 1, 2, 59, 5, 15};
        for (int man = 0; man <= 5; man++) {
            CHECKS.due("ends " + man, x.ends(man), first[man]);
        }
        x.years(1);
        CHECKS.due("0: he is off it now", x.ends(0), 0);
        x.nurse(3, 60);
        CHECKS.due("60: the last", x.ends(3), 60);
    }

    private static void lonely() {
        CHECKS.sentence("LONELY: the first of 0 to 60 YEARS behind which there is one on it at most; none.");
        CHECKS.due("nobody now", new BattleBench().lonely(), 0);
        CHECKS.due("one now", Checks.bench("p60").lonely(), 0);
        CHECKS.due("two, then one", Checks.bench("p60,p2").lonely(), 1);
        CHECKS.due("two, then nobody", Checks.bench("p4,p4").lonely(), 2);
        CHECKS.due("three, then two, then one", Checks.bench("p60,p4,p2").lonely(), 2);
        BattleBench x = Checks.bench("h60,h60,h60");
        CHECKS.due("59", x.lonely(), 59);
        x.years(1);
        for (int man = 0; man <= 2; man++) {
            x.nurse(man, 60);
        }
        CHECKS.due("60: the last", x.lonely(), 60);
    }

    private static void close() {
        CHECKS.sentence("CLOSE for two: the first of 0 to 60 YEARS behind which they SIT BY one another; none.");
        BattleBench x = Checks.bench("p60,p2,p60,p4,p6,p60");
        CHECKS.due("0: now", x.close(0, 1), 0);
        CHECKS.due("and the other way", x.close(1, 0), 0);
        CHECKS.due("1", x.close(0, 2), 1);
        CHECKS.due("two between, who die one behind the other", x.close(2, 5), 3);
        CHECKS.due("the same from the other side", x.close(5, 2), 3);
        x = Checks.bench("h60,h58,h60");
        CHECKS.due("57", x.close(0, 2), 57);
        x.years(1);
        x.nurse(0, 60);
        x.nurse(1, 2);
        x.nurse(2, 60);
        CHECKS.due("58: the last that can be", x.close(2, 0), 58);
    }

    private static void closeNever() {
        CHECKS.sentence("the first of 0 to 60 YEARS behind which they SIT BY one another; none.");
        CHECKS.due("one between lives longest", Checks.bench("p9,p60,p9").close(0, 2), NONE);
        CHECKS.due("he dies with one of them", Checks.bench("p9,p2,p2").close(0, 2), NONE);
        CHECKS.due("all die at once", Checks.bench("p2,p2,p2").close(0, 2), NONE);
        BattleBench x = Checks.bench("p9,p2,p9");
        x.years(1);
        CHECKS.due("one is dead", x.close(0, 1), NONE);
        CHECKS.due("or the other", x.close(1, 2), NONE);
        CHECKS.due("alike numbers", x.close(0, 0), BAD);
    }

    private static void wrong() {
        CHECKS.sentence("WRONG: how many pairs SIT BY one another who never STOOD BY one another.");
        CHECKS.due("nobody", new BattleBench().count(5), 0);
        CHECKS.due("one", Checks.bench("p9").count(5), 0);
        BattleBench x = Checks.bench("p9,p9,p9,p9,p9,p9");
        CHECKS.due("none: the ends are no pair", x.count(5), 0);
        // 2 0 4 1 5 3: each beside none of his row.
        int[] moves = {1, 0, 3, 2, 4};
        for (int k : moves) {
            x.move(k);
        }
        CHECKS.due("seats", Checks.seats(x), 9204153);
        CHECKS.due("all five", x.count(5), 5);
        x.stood(2, 1, 9);
        x.stood(0, 1, 8);
        CHECKS.due("one pair stood so at one hour", x.count(5), 4);
        x = Checks.bench("p9,p2,p9");
        x.years(1);
        CHECKS.due("those who close up", x.count(5), 1);
        CHECKS.due("none is wrong", Checks.bench(ALL_STOOD_BY).count(5), 0);
    }

    private static void swaps() {
        CHECKS.sentence("SWAPS to an HOUR: the fewest times that two are MOVED so that all sit in the order of their PLACES at it (from the least on).");
        CHECKS.due("nobody", new BattleBench().swaps(0), 0);
        CHECKS.due("one", Checks.bench("p9.987").swaps(2), 0);
        BattleBench x = Checks.bench("p9.095,p9.184,p9.273,p9.362,p9.451,p9.540");
        CHECKS.due("in order", x.swaps(0), 0);
        CHECKS.due("all turned round", x.swaps(1), 15);
        CHECKS.due("at each hour by itself", x.swaps(2), 15);
        x.move(2);
        CHECKS.due("one more", x.swaps(0), 1);
        CHECKS.due("one less", x.swaps(1), 14);
        x = Checks.bench("p9.222,p2.999,p9.111,p9.000");
        CHECKS.due("four", x.swaps(0), 5);
        x.years(1);
        CHECKS.due("who is there alone", x.swaps(0), 3);
        x = Checks.bench("p9.900,p9.011");
        CHECKS.due("from the least on", x.swaps(0), 1);
        CHECKS.due("not to the least", x.swaps(1), 0);
    }

    private static void stay() {
        CHECKS.sentence("STAY at an HOUR: the most MEN who sit in that order already, others between them being of no matter");
        BattleBench x = new BattleBench();
        CHECKS.due("nobody", x.stay(0, 0), 0);
        CHECKS.due("who", x.stay(0, 1), 0);
        x = Checks.bench("p9.095,p9.184,p9.273,p9.362,p9.451,p9.540");
        CHECKS.due("all", x.stay(0, 0), 6);
        CHECKS.due("all of them", x.stay(0, 1), 63);
        CHECKS.due("one at least", x.stay(1, 0), 1);
        CHECKS.due("the first of them", x.stay(1, 1), 1);
        x = Checks.bench("p9.000,p9.999,p9.111,p9.888,p9.222,p9.777");
        CHECKS.due("others between", x.stay(0, 0), 4);
        CHECKS.due("0 1 2 7", x.stay(0, 1), 1 | 4 | 16 | 32);
        x = Checks.bench("p9.000,p2.111,p9.222");
        x.years(1);
        CHECKS.due("who is there alone", x.stay(2, 1), 5);
    }

    private static void theFirstRowThatStays() {
        CHECKS.sentence("the first such row (by SEATS, rising): who (a set).");
        BattleBench x = Checks.bench("p9.000,p9.555,p9.111,p9.666,p9.222");
        CHECKS.due("three", x.stay(0, 0), 3);
        CHECKS.due("seats 0 1 3, not 0 2 3, not 0 2 4", x.stay(0, 1), 1 | 2 | 8);
        x = Checks.bench("p9.555,p9.000,p9.666,p9.111");
        CHECKS.due("seats 0 2, not 1 2, not 1 3", x.stay(0, 1), 1 | 4);
        x = Checks.bench("p9.888,p9.000,p9.999,p9.111,p9.222");
        CHECKS.due("the longest goes first", x.stay(0, 1), 2 | 8 | 16);
        x = Checks.bench("p9.222,p9.111,p9.000");
        x.move(1);
        x.move(0);
        CHECKS.due("seats", Checks.seats(x), 9201);
        CHECKS.due("by seats, not by numbers: 2 0, not 2 1", x.stay(0, 1), 4 | 1);
    }

    private static void ways() {
        CHECKS.sentence("WAYS: in how many orders all on THE BENCH could sit so that nobody SITS BY one whom he did not STAND BY.");
        CHECKS.due("nobody", new BattleBench().ways(), 1);
        CHECKS.due("one", Checks.bench("p9").ways(), 1);
        CHECKS.due("two", Checks.bench("p9,p9").ways(), 2);
        CHECKS.due("six, all of them", Checks.bench(ALL_STOOD_BY).ways(), 720);
        BattleBench x = Checks.bench("p9,p9,p9,p9,p9,p9");
        CHECKS.due("six, the fewest", x.ways(), 2);
        x.move(2);
        CHECKS.due("however they sit", x.ways(), 2);
        x = Checks.bench("p9,p2,p9,p2,p9");
        x.years(1);
        CHECKS.due("none", x.ways(), 0);
        x.years(4);
        CHECKS.due("nobody any more", x.ways(), 1);
    }

    private static void ease() {
        CHECKS.sentence("EASE: the fewest WRONG by any order");
        CHECKS.due("nobody", new BattleBench().ease(-1), 0);
        CHECKS.due("one", Checks.bench("p9").ease(-1), 0);
        BattleBench x = Checks.bench("p9,p9,p9,p9,p9,p9");
        x.move(2);
        CHECKS.due("wrong as they sit", x.count(5), 2);
        CHECKS.due("none wrong", x.ease(-1), 0);
        x = Checks.bench("p9,p2,p9,p2,p9,p2");
        x.years(1);
        CHECKS.due("all wrong by any", x.ease(-1), 2);
        x = Checks.bench("p9,p9,p2,p9,p9");
        x.years(1);
        x.move(1);
        CHECKS.due("three wrong as they sit", x.count(5), 3);
        CHECKS.due("one at least", x.ease(-1), 1);
    }

    private static void easeTheFirst() {
        CHECKS.sentence("of like ones the first (by numbers, rising): how many; who sits on SEAT k.");
        BattleBench x = Checks.bench(ALL_STOOD_BY);
        x.move(0);
        x.move(3);
        easeRow("of 720 the first", x, 9012345);
        x = Checks.bench("p9,p2,p9,p2,p9,p2");
        x.years(1);
        x.move(0);
        easeRow("all wrong, the first", x, 9024);
        x = Checks.bench("p9.555,p9.444,p9.333,p9.222,p9.111,p9.000");
        easeRow("by numbers, not by places", x, 9012345);
        x = Checks.bench("p9.333,p9.000,p9.222,p9.111");
        easeRow("of the row and the same from behind", x, 90231);
        easeRow("one", Checks.bench("p9"), 90);
        easeRow("nobody", new BattleBench(), 9);
    }

    private static void easeRow(String call, BattleBench x, int want) {
        int row = 9;
        int seated = x.count(1);
        for (int k = 0; k < seated; k++) {
            row = 10 * row + x.ease(k);
        }
        CHECKS.due(call, row, want);
        CHECKS.due(call + ", nobody behind", x.ease(seated), NONE);
    }

    private static void leftRow(String call, BattleBench x, int n, int want) {
        int row = 9;
        int seated = x.count(1);
        for (int k = 0; k < seated; k++) {
            row = 10 * row + x.left(n, k);
        }
        CHECKS.due(call, row, want);
        CHECKS.due(call + ", nobody behind", x.left(n, seated), NONE);
    }

    private static void leftYears() {
        CHECKS.sentence("LEFT for n YEARS (0 .. 30)");
        BattleBench x = Checks.bench("p60,h60,p2");
        for (int n : Checks.outside(0, 30)) {
            CHECKS.due("years " + n, x.left(n, -1), BAD);
        }
        CHECKS.due("0 is now", x.left(0, -1), 3);
        CHECKS.due("life of now", x.left(0, -2), 122);
        CHECKS.due("1", x.left(1, -1), 2);
        CHECKS.due("29", x.left(29, -1), 2);
        CHECKS.due("life behind 29", x.left(29, -2), 2 + 30);
        CHECKS.due("30", x.left(30, -1), 1);
        CHECKS.due("life behind 30", x.left(30, -2), 30);
        // The runner stood by all others; man 0 is by him for one year alone.
        x = Checks.bench("p2,r60,p60.922,p60");
        leftRow("behind one year", x, 1, 90123);
        leftRow("behind three", x, 3, 90213);
        CHECKS.due("life behind one", x.left(1, -2), 58 + 58 + 58);
        CHECKS.due("life behind three", x.left(3, -2), 54 + 54 + 54);
    }

    private static void leftMost() {
        CHECKS.sentence("the order by which most are on THE BENCH behind them");
        // By 1 0 2 the drummer dies not; the runner between the two would have more life.
        BattleBench x = Checks.bench("d3,r60,p60");
        CHECKS.due("three", x.left(1, -1), 3);
        leftRow("the drummer between", x, 1, 9102);
        CHECKS.due("life", x.left(1, -2), 1 + 57 + 58);
        x = Checks.bench("r4,p60,p60");
        CHECKS.due("three of them", x.left(1, -1), 3);
        CHECKS.due("none by any", Checks.bench("p2,p2").left(1, -1), 0);
        CHECKS.due("nobody", new BattleBench().left(30, -1), 0);
    }

    private static void leftLife() {
        CHECKS.sentence("of like ones LIFE of all together is most then");
        BattleBench x = Checks.bench("p60,p60,d60,p60");
        CHECKS.due("the drummer between", x.left(1, -2), 58 + 58 + 58 + 58);
        leftRow("the first by which he is", x, 1, 90123);
        x = Checks.bench("d60,p60,p60,p60");
        leftRow("not at an end", x, 1, 91023);
        leftRow("the last to come between the others", Checks.bench("p60,p60,d60"), 1, 9021);
        leftRow("he who came in the middle", Checks.bench("p60,d60,p60"), 1, 9012);
        leftRow("the last of six", Checks.bench("p60,p60,p60,p60,p60,d60"), 1, 9012354);
        x = Checks.bench("d60,d60,p60");
        CHECKS.due("one of them is at an end", x.left(2, -2), 57 + 58 - 1 + 56);
        leftRow("the first of like ones", x, 2, 9012);
        CHECKS.due("nobody", new BattleBench().left(0, -2), 0);
    }

    private static void leftFirst() {
        CHECKS.sentence("of like ones the first: how many; LIFE; who sits on SEAT k.");
        BattleBench x = Checks.bench("p9,p9,p9,p9,p9,p9");
        x.move(0);
        x.move(3);
        leftRow("all are alike", x, 3, 9012345);
        leftRow("0 years", x, 0, 9012345);
        leftRow("when all are dead", x, 30, 9012345);
        CHECKS.due("as they sit now stays", Checks.seats(x), 9102435);
        x = Checks.bench("p9,p2,p9");
        x.years(1);
        x.move(0);
        leftRow("who is there alone", x, 1, 902);
        leftRow("one", Checks.bench("r9"), 1, 90);
        leftRow("nobody", new BattleBench(), 1, 9);
    }

    private static void winter(BattleBench x, int m, int c, int above, int below) {
        CHECKS.due("winter " + m + " " + c + " above", x.winter(m, c, 0), above);
        CHECKS.due("winter " + m + " " + c + " below", x.winter(m, c, 1), below);
    }

    private static void winterBounds() {
        CHECKS.sentence("WINTER by c of 10 (0 .. 10): each on THE BENCH dies now by c of 10, apart: how likely m (0 .. 6) or more are left");
        BattleBench x = Checks.bench(ALL_STOOD_BY);
        for (int m : Checks.outside(0, 6)) {
            CHECKS.due("m " + m, x.winter(m, 5, 0), BAD);
        }
        for (int c : Checks.outside(0, 10)) {
            CHECKS.due("c " + c, x.winter(3, c, 0), BAD);
        }
        for (int what : Checks.outside(0, 1)) {
            CHECKS.due("what " + what, x.winter(3, 5, what), BAD);
        }
        winter(x, 6, 0, 1, 1);
        winter(x, 0, 0, 1, 1);
        winter(x, 0, 10, 1, 1);
        winter(x, 1, 10, 0, 1);
        winter(x, 6, 10, 0, 1);
    }

    private static void winterLeft() {
        CHECKS.sentence("how likely m (0 .. 6) or more are left");
        BattleBench x = Checks.bench(ALL_STOOD_BY);
        winter(x, 6, 5, 1, 64);
        winter(x, 5, 5, 7, 64);
        winter(x, 4, 5, 11, 32);
        winter(x, 1, 5, 63, 64);
        winter(x, 0, 5, 1, 1);
        winter(x, 6, 1, 531441, 1000000);
        winter(x, 1, 9, 468559, 1000000);
        x = Checks.bench("p9");
        winter(x, 1, 3, 7, 10);
        winter(x, 0, 3, 1, 1);
        winter(x, 2, 0, 0, 1);
        winter(new BattleBench(), 0, 10, 1, 1);
        winter(new BattleBench(), 1, 0, 0, 1);
        x = Checks.bench("p9,p2");
        x.years(1);
        winter(x, 1, 4, 3, 5);
        winter(x, 2, 0, 0, 1);
    }

    private static void winterCloseUp() {
        CHECKS.sentence("and no two of them then SIT BY one another who never STOOD BY one another");
        BattleBench x = Checks.bench("p9,p9,p9");
        winter(x, 0, 1, 919, 1000);
        winter(x, 2, 1, 891, 1000);
        winter(x, 0, 5, 7, 8);
        x.move(0);
        CHECKS.due("1 0 2", x.count(5), 1);
        winter(x, 0, 0, 0, 1);
        winter(x, 2, 5, 1, 4);
        winter(x, 1, 5, 5, 8);
        x = Checks.bench("p9,p2,p9");
        x.years(1);
        winter(x, 2, 0, 0, 1);
        winter(x, 1, 0, 0, 1);
        winter(x, 0, 5, 3, 4);
    }

    private static void lowestTerms() {
        CHECKS.sentence("a fraction in lowest terms.");
        BattleBench x = Checks.bench("p9,p9");
        winter(x, 2, 2, 16, 25);
        winter(x, 2, 8, 1, 25);
        winter(x, 2, 3, 49, 100);
        winter(x, 3, 3, 0, 1);
        winter(x, 0, 7, 1, 1);
        winter(x, 1, 4, 21, 25);
    }
}
