/** Each sentence of the promises 1 to 33 that names a boundary case. */
final class PromisesTest {
    private static final Checks CHECKS = new Checks();
    private static final int BAD = -1, NOT = -2, FULL = -3, NONE = -4, NULL = -11, CAST = -12, INDEX = -13, SIZE = -14;
    private static final int LEAST = Integer.MIN_VALUE, MOST = Integer.MAX_VALUE;

    public static void main(String[] args) {
        p01NewObject();
        p02Man();
        p03Stood();
        p04Of();
        p05Seat();
        p06Type();
        p07Read();
        p08Count();
        p09Years();
        p10Move();
        p11Nurse();
        p12Drift();
        p13Undo();
        p14Seed();
        p15Ahead();
        p16Then();
        p17Ends();
        p18Lonely();
        p19Close();
        p20Swaps();
        p21Stay();
        p22Ways();
        p23Ease();
        p24Left();
        p25Winter();
        p26Image();
        p27Restore();
        p28Failed();
        p29Film();
        p30Sheet();
        p31Drop();
        p32Item();
        p33Copy();
        atMost512Calls();
        CHECKS.end();
    }

    private static void p01NewObject() {
        CHECKS.sentence("An empty bench.");
        BattleBench x = new BattleBench();
        for (int what = 0; what <= 6; what++) {
            CHECKS.due("count " + what, x.count(what), 0);
        }
        CHECKS.due("seat", x.seat(0), NONE);
        CHECKS.due("the tape", x.type('p'), 1);
        CHECKS.due("undo", x.undo(), NONE);
        CHECKS.due("restore", x.restore(), NONE);
        for (int s = 0; s <= 3; s++) {
            CHECKS.due("sheet " + s, x.drop(s), NULL);
        }
        BattleBench y = new BattleBench();
        x.man(0, 9);
        CHECKS.due("one object is not another", y.count(0), 0);
    }

    private static void p02Man() {
        CHECKS.sentence("A man: his number. BAD");
        BattleBench x = new BattleBench();
        for (int kind : Checks.outside(0, 4)) {
            CHECKS.due("kind " + kind, x.man(kind, 9), BAD);
        }
        for (int life : Checks.outside(1, 60)) {
            CHECKS.due("life " + life, x.man(0, life), BAD);
        }
        CHECKS.due("the least kind and life", x.man(0, 1), 0);
        CHECKS.due("the greatest", x.man(4, 60), 1);

        CHECKS.sentence("NOT: another one stood at the PLACE of his number");
        for (int hour = 0; hour <= 2; hour++) {
            x = Checks.bench("p9,p2");
            x.stood(1, hour, 2);
            x.years(1);
            CHECKS.due("at hour " + hour + ", though he is dead", x.man(0, 9), NOT);
            x.stood(1, hour, 1);
            CHECKS.due("not any more", x.man(0, 9), 2);
        }

        CHECKS.sentence("FULL: 6 (ahead of NOT).");
        x = Checks.bench("p2,p2,p2,p2,p2");
        CHECKS.due("the sixth", x.man(0, 9), 5);
        CHECKS.due("a seventh", x.man(0, 9), FULL);
        x.years(1);
        CHECKS.due("though five are dead", x.man(0, 9), FULL);
        x.stood(0, 0, 6);
        CHECKS.due("ahead of NOT", x.man(0, 9), FULL);
    }

    private static void p03Stood() {
        CHECKS.sentence("A man stood at another PLACE at an HOUR: at which he did. BAD; NOT: somebody (himself, too) did.");
        BattleBench x = Checks.bench("p9,p9");
        for (int man : Checks.outside(0, 1)) {
            CHECKS.due("man " + man, x.stood(man, 0, 9), BAD);
        }
        for (int hour : Checks.outside(0, 2)) {
            CHECKS.due("hour " + hour, x.stood(0, hour, 9), BAD);
        }
        for (int place : Checks.outside(0, 9)) {
            CHECKS.due("place " + place, x.stood(0, 0, place), BAD);
        }
        CHECKS.due("himself", x.stood(1, 2, 1), NOT);
        CHECKS.due("somebody", x.stood(1, 2, 0), NOT);
        CHECKS.due("at which he did", x.stood(1, 2, 9), 1);
        CHECKS.due("at which he did then", x.stood(1, 2, 1), 9);
        CHECKS.due("there is none", new BattleBench().stood(0, 0, 0), BAD);
    }

    private static void p04Of() {
        CHECKS.sentence("Of a man: 0 KIND .. 8 by how much he FAILS in this YEAR (0: he is off THE BENCH). BAD.");
        BattleBench x = Checks.bench("u9.345,r4.453");
        for (int man : Checks.outside(0, 1)) {
            CHECKS.due("man " + man, x.of(man, 0), BAD);
        }
        for (int what : Checks.outside(0, 8)) {
            CHECKS.due("what " + what, x.of(0, what), BAD);
        }
        int[] first = {2, 9, 0, 3, 4, 5, 2, 2, 4};
        int[] second = {4, 4, 1, 4, 5, 3, 1, 1, 3};
        for (int what = 0; what <= 8; what++) {
            CHECKS.due("of 0: " + what, x.of(0, what), first[what]);
            CHECKS.due("of 1: " + what, x.of(1, what), second[what]);
        }
        x.years(2);
        CHECKS.due("his seat (NONE)", x.of(1, 2), NONE);
        CHECKS.due("0: he is off", x.of(1, 8), 0);
        CHECKS.due("nobody sits by him", x.of(1, 7), 0);
        CHECKS.due("the other stood by him still", x.of(1, 6), 1);
    }

    private static void p05Seat() {
        CHECKS.sentence("Who sits on SEAT k; NONE. BAD: below 0.");
        BattleBench x = Checks.bench("p9,p9");
        CHECKS.due("-1", x.seat(-1), BAD);
        CHECKS.due("least", x.seat(LEAST), BAD);
        CHECKS.due("0", x.seat(0), 0);
        CHECKS.due("the last", x.seat(1), 1);
        CHECKS.due("behind it", x.seat(2), NONE);
        CHECKS.due("6", x.seat(6), NONE);
        CHECKS.due("most", x.seat(MOST), NONE);
        CHECKS.due("an empty bench", new BattleBench().seat(-1), BAD);
    }

    private static void p06Type() {
        CHECKS.sentence("One letter more behind THE TAPE: how many it has. BAD: not 32 .. 126; FULL: 70.");
        BattleBench x = new BattleBench();
        for (int letter : Checks.outside(32, 126)) {
            CHECKS.due("letter " + letter, x.type(letter), BAD);
        }
        CHECKS.due("letter 32", x.type(32), 1);
        CHECKS.due("letter 126", x.type(126), 2);
        for (int n = 3; n <= 70; n++) {
            CHECKS.due("letter " + n, x.type('p'), n);
        }
        CHECKS.due("the 71st", x.type('p'), FULL);
        CHECKS.due("and again", x.type(' '), FULL);
        CHECKS.due("all are there", x.read(), -21);
        CHECKS.due("the first again", x.type('p'), 1);
        for (int n = 2; n <= 68; n++) {
            x.type(' ');
        }
        x.type('6');
        CHECKS.due("the 70th", x.type('0'), 70);
        x.type('0');
        CHECKS.due("it is read, and what was refused is not", x.read(), 1);
        CHECKS.due("60", x.of(0, 1), 60);
    }

    private static void p07Read() {
        CHECKS.sentence("THE TAPE, which is empty then, is a BENCH: how many MEN.");
        BattleBench x = new BattleBench();
        CHECKS.due("one", Checks.read(x, "p5"), 1);
        CHECKS.due("empty then", x.read(), -20);
        CHECKS.due("six", Checks.read(x, "p5,p5,p5,p5,p5,p5"), 6);
        CHECKS.due("the first letter then", x.type('p'), 1);

        CHECKS.sentence("A FAULT (all else stays).");
        x = Checks.bench("u9,p9");
        x.seed(5);
        x.move(0);
        x.years(1);
        x.sheet(0, 0, 3);
        CHECKS.due("a fault behind two who are well", Checks.read(x, "p5.777,h6,x"), -30);
        CHECKS.due("the tape is empty, too", x.type('p'), 1);
        CHECKS.due("men", x.count(0), 2);
        CHECKS.due("lives", Checks.lives(x), 90507);
        CHECKS.due("seats", Checks.seats(x), 910);
        CHECKS.due("kind", x.of(0, 0), 2);
        CHECKS.due("place", x.of(0, 3), 0);
        CHECKS.due("year", x.count(2), 1);
        CHECKS.due("undo", x.count(6), 2);
        CHECKS.due("the draw", x.seed(5), 5);
        CHECKS.due("sheets", x.drop(0), 3);
    }

    private static void p08Count() {
        CHECKS.sentence("0 MEN .. 6 what may be UNDONE. BAD.");
        BattleBench x = Checks.bench("p9,p2,p8");
        for (int what : Checks.outside(0, 6)) {
            CHECKS.due("what " + what, x.count(what), BAD);
        }
        x.years(1);
        int[] want = {3, 2, 1, 5, 7 + 6, 1, 1};
        for (int what = 0; what <= 6; what++) {
            CHECKS.due("what " + what, x.count(what), want[what]);
        }
    }

    private static BattleBench inYear(int year) {
        BattleBench x = new BattleBench();
        for (int y = 0; y < year; y += 40) {
            x.years(Math.min(40, year - y));
        }
        return x;
    }

    private static void p09Years() {
        CHECKS.sentence("n YEARS (1 .. 40; each by itself may be UNDONE): who is on THE BENCH then (a set). BAD");
        BattleBench x = Checks.bench("h60,p60");
        for (int n : Checks.outside(1, 40)) {
            CHECKS.due("years " + n, x.years(n), BAD);
        }
        CHECKS.due("1", x.years(1), 3);
        CHECKS.due("40", x.years(40), 1);
        CHECKS.due("41 went by", x.count(2), 41);
        CHECKS.due("each by itself", x.undo(), 7);
        CHECKS.due("40", x.count(2), 40);

        CHECKS.sentence("FULL: the YEAR would be above 9999.");
        x = inYear(9959);
        CHECKS.due("year", x.count(2), 9959);
        CHECKS.due("40: to 9999", x.years(40), 0);
        CHECKS.due("1 more", x.years(1), FULL);
        CHECKS.due("40 more", x.years(40), FULL);
        CHECKS.due("it is 9999", x.count(2), 9999);
        x = inYear(9960);
        CHECKS.due("40: to 10000", x.years(40), FULL);
        CHECKS.due("nothing went by", x.count(2), 9960);
        CHECKS.due("39", x.years(39), 0);
    }

    private static void p10Move() {
        CHECKS.sentence("MOVED on SEATS k, k and 1: who sits on k then. BAD: there are no such two.");
        for (int men = 0; men <= 6; men++) {
            BattleBench x = new BattleBench();
            for (int man = 0; man < men; man++) {
                x.man(0, 9);
            }
            for (int k : Checks.outside(0, men - 2)) {
                CHECKS.due(men + ": " + k, x.move(k), BAD);
            }
            CHECKS.due(men + ": the last", x.move(men - 1), BAD);
            if (men >= 2) {
                CHECKS.due(men + ": the last two", x.move(men - 2), men - 1);
                CHECKS.due(men + ": back", x.move(men - 2), men - 2);
            }
        }
        BattleBench x = Checks.bench("p9,p2,p9");
        x.years(1);
        CHECKS.due("one died", x.move(1), BAD);
        CHECKS.due("two are left", x.move(0), 2);
    }

    private static void p11Nurse() {
        CHECKS.sentence("NURSED by n (1 .. 60): LIFE then. BAD; NOT: he is off THE BENCH.");
        BattleBench x = Checks.bench("p9,p2");
        for (int man : Checks.outside(0, 1)) {
            CHECKS.due("man " + man, x.nurse(man, 1), BAD);
        }
        for (int n : Checks.outside(1, 60)) {
            CHECKS.due("by " + n, x.nurse(0, n), BAD);
        }
        CHECKS.due("by 1", x.nurse(0, 1), 10);
        CHECKS.due("by 60", x.nurse(0, 60), 60);
        x.years(1);
        CHECKS.due("off the bench", x.nurse(1, 60), NOT);
        CHECKS.due("and stays so", x.of(1, 1), 0);
        CHECKS.due("there is none", new BattleBench().nurse(0, 1), BAD);
    }

    private static void p12Drift() {
        CHECKS.sentence("A DRIFT of n YEARS (1 .. 40; each with who is MOVED one that may be UNDONE): who is on THE BENCH then (a set). BAD");
        BattleBench x = Checks.bench("h60,p60");
        for (int n : Checks.outside(1, 40)) {
            CHECKS.due("years " + n, x.drift(n), BAD);
        }
        CHECKS.due("1", x.drift(1), 3);
        CHECKS.due("one that may be undone", x.count(6), 1);
        CHECKS.due("they changed", Checks.seats(x), 910);
        CHECKS.due("undone", x.undo(), 0);
        CHECKS.due("with who was moved", Checks.seats(x), 901);
        CHECKS.due("and the draw", x.seed(1), 1);
        CHECKS.due("40", x.drift(40), 1);
        CHECKS.due("8 are known", x.count(6), 8);

        CHECKS.sentence("FULL: likewise.");
        x = inYear(9959);
        CHECKS.due("40: to 9999", x.drift(40), 0);
        CHECKS.due("1 more", x.drift(1), FULL);
        x = inYear(9960);
        x.seed(7);
        CHECKS.due("40: to 10000", x.drift(40), FULL);
        CHECKS.due("nothing was drawn", x.seed(7), 7);
        CHECKS.due("39", x.drift(39), 0);
        CHECKS.due("9999", x.count(2), 9999);
    }

    private static void p13Undo() {
        CHECKS.sentence("UNDONE: how many more may be. NONE: none is known.");
        BattleBench x = Checks.bench("p9");
        CHECKS.due("none", x.undo(), NONE);
        x.nurse(0, 1);
        x.nurse(0, 1);
        CHECKS.due("one more", x.undo(), 1);
        CHECKS.due("no more", x.undo(), 0);
        CHECKS.due("none is known", x.undo(), NONE);
        CHECKS.due("life", x.of(0, 1), 9);
        CHECKS.due("a new object", new BattleBench().undo(), NONE);
    }

    private static void p14Seed() {
        CHECKS.sentence("THE DRAW becomes v: what it was. BAD: below 0.");
        BattleBench x = new BattleBench();
        CHECKS.due("-1", x.seed(-1), BAD);
        CHECKS.due("least", x.seed(LEAST), BAD);
        CHECKS.due("0", x.seed(0), 1);
        CHECKS.due("most", x.seed(MOST), 0);
        CHECKS.due("it was", x.seed(1), MOST);
    }

    private static void p15Ahead() {
        CHECKS.sentence("LIFE behind n YEARS. BAD.");
        BattleBench x = Checks.bench("p9,p2");
        for (int man : Checks.outside(0, 1)) {
            CHECKS.due("man " + man, x.ahead(man, 0), BAD);
        }
        for (int n : Checks.outside(0, 60)) {
            CHECKS.due("years " + n, x.ahead(0, n), BAD);
        }
        CHECKS.due("0", x.ahead(1, 0), 2);
        CHECKS.due("60", x.ahead(1, 60), 0);
        CHECKS.due("there is none", new BattleBench().ahead(0, 0), BAD);
    }

    private static void p16Then() {
        CHECKS.sentence("Who is on THE BENCH behind n YEARS (a set). BAD.");
        BattleBench x = Checks.bench("p2,p9");
        for (int n : Checks.outside(0, 60)) {
            CHECKS.due("years " + n, x.then(n), BAD);
        }
        CHECKS.due("0", x.then(0), 3);
        CHECKS.due("1", x.then(1), 2);
        CHECKS.due("60", x.then(60), 0);
        CHECKS.due("nobody", new BattleBench().then(0), 0);
    }

    private static void p17Ends() {
        CHECKS.sentence("ENDS; NONE. BAD.");
        BattleBench x = Checks.bench("p2,p9");
        for (int man : Checks.outside(0, 1)) {
            CHECKS.due("man " + man, x.ends(man), BAD);
        }
        CHECKS.due("1", x.ends(0), 1);
        CHECKS.due("there is none", new BattleBench().ends(0), BAD);
    }

    private static void p18Lonely() {
        CHECKS.sentence("LONELY; NONE.");
        BattleBench x = inYear(9999);
        x.man(1, 60);
        CHECKS.due("one", x.lonely(), 0);
        x.man(1, 60);
        CHECKS.due("the last there is, beyond year 9999", x.lonely(), 60);
    }

    private static void p19Close() {
        CHECKS.sentence("CLOSE; NONE. BAD: alike numbers, too.");
        BattleBench x = Checks.bench("p9,p2,p9");
        for (int man : Checks.outside(0, 2)) {
            CHECKS.due("man " + man, x.close(man, 0), BAD);
            CHECKS.due("other " + man, x.close(0, man), BAD);
            CHECKS.due("both " + man, x.close(man, man), BAD);
        }
        for (int man = 0; man <= 2; man++) {
            CHECKS.due("alike", x.close(man, man), BAD);
        }
        CHECKS.due("0", x.close(2, 1), 0);
        CHECKS.due("1", x.close(2, 0), 1);
        x.years(1);
        CHECKS.due("NONE", x.close(2, 1), NONE);
        CHECKS.due("alike and dead", x.close(1, 1), BAD);
    }

    private static void p20Swaps() {
        CHECKS.sentence("SWAPS. BAD.");
        BattleBench x = Checks.bench("p9.201,p9.120");
        for (int hour : Checks.outside(0, 2)) {
            CHECKS.due("hour " + hour, x.swaps(hour), BAD);
        }
        CHECKS.due("0", x.swaps(0), 1);
        CHECKS.due("1", x.swaps(1), 0);
        CHECKS.due("2", x.swaps(2), 1);
    }

    private static void p21Stay() {
        CHECKS.sentence("STAY: how many (what 0), who (1). BAD.");
        BattleBench x = Checks.bench("p9.201,p9.120");
        for (int hour : Checks.outside(0, 2)) {
            CHECKS.due("hour " + hour, x.stay(hour, 0), BAD);
        }
        for (int what : Checks.outside(0, 1)) {
            CHECKS.due("what " + what, x.stay(0, what), BAD);
        }
        int[] many = {1, 2, 1};
        int[] who = {1, 3, 1};
        for (int hour = 0; hour <= 2; hour++) {
            CHECKS.due("how many at " + hour, x.stay(hour, 0), many[hour]);
            CHECKS.due("who at " + hour, x.stay(hour, 1), who[hour]);
        }
    }

    private static void p22Ways() {
        CHECKS.sentence("WAYS (nobody, one: 1).");
        BattleBench x = new BattleBench();
        CHECKS.due("nobody", x.ways(), 1);
        x.man(0, 2);
        CHECKS.due("one", x.ways(), 1);
        x.years(1);
        CHECKS.due("nobody any more", x.ways(), 1);
        x.man(0, 9);
        CHECKS.due("one again", x.ways(), 1);
    }

    private static void p23Ease() {
        CHECKS.sentence("EASE: how many (k -1), who sits on SEAT k (NONE: nobody). BAD: k below -1.");
        BattleBench x = Checks.bench("p9,p9");
        CHECKS.due("-2", x.ease(-2), BAD);
        CHECKS.due("least", x.ease(LEAST), BAD);
        CHECKS.due("-1", x.ease(-1), 0);
        CHECKS.due("0", x.ease(0), 0);
        CHECKS.due("the last", x.ease(1), 1);
        CHECKS.due("nobody", x.ease(2), NONE);
        CHECKS.due("6", x.ease(6), NONE);
        CHECKS.due("most", x.ease(MOST), NONE);
        CHECKS.due("on an empty bench", new BattleBench().ease(-2), BAD);
    }

    private static void p24Left() {
        CHECKS.sentence("LEFT: how many (k -1), LIFE (k -2), who sits on SEAT k now (NONE: nobody). BAD: k below -2.");
        BattleBench x = Checks.bench("p9,p2");
        for (int n : Checks.outside(0, 30)) {
            CHECKS.due("years " + n, x.left(n, 0), BAD);
        }
        CHECKS.due("-3", x.left(1, -3), BAD);
        CHECKS.due("least", x.left(1, LEAST), BAD);
        CHECKS.due("-2", x.left(1, -2), 7);
        CHECKS.due("-1", x.left(1, -1), 1);
        CHECKS.due("0", x.left(1, 0), 0);
        CHECKS.due("who sits there now, though he dies", x.left(1, 1), 1);
        CHECKS.due("nobody", x.left(1, 2), NONE);
        CHECKS.due("6", x.left(1, 6), NONE);
        CHECKS.due("most", x.left(1, MOST), NONE);
        CHECKS.due("0 years", x.left(0, -1), 2);
        CHECKS.due("30 years", x.left(30, -1), 0);
        CHECKS.due("without life", x.left(30, -2), 0);
    }

    private static void p25Winter() {
        CHECKS.sentence("WINTER: above (what 0), below (1). BAD.");
        BattleBench x = Checks.bench("p9");
        for (int m : Checks.outside(0, 6)) {
            CHECKS.due("m " + m, x.winter(m, 5, 1), BAD);
        }
        for (int c : Checks.outside(0, 10)) {
            CHECKS.due("c " + c, x.winter(1, c, 1), BAD);
        }
        for (int what : Checks.outside(0, 1)) {
            CHECKS.due("what " + what, x.winter(1, 5, what), BAD);
        }
        CHECKS.due("above", x.winter(1, 9, 0), 1);
        CHECKS.due("below", x.winter(1, 9, 1), 10);
        CHECKS.due("m 6, c 0", x.winter(6, 0, 0), 0);
        CHECKS.due("m 0, c 10", x.winter(0, 10, 0), 1);
    }

    private static void p26Image() {
        CHECKS.sentence("All but SHEETS, THE TAPE is kept as an IMAGE: 1.");
        BattleBench x = Checks.bench("p9,h9");
        x.seed(6);
        x.move(0);
        x.sheet(0, 2, 4);
        x.type('p');
        CHECKS.due("kept", x.image(), 1);
        x.stood(0, 0, 9);
        x.seed(8);
        x.years(2);
        x.man(2, 5);
        x.sheet(0, 1, 7);
        x.type('4');
        x.restore();
        CHECKS.due("men", x.count(0), 2);
        CHECKS.due("lives", Checks.lives(x), 90909);
        CHECKS.due("seats", Checks.seats(x), 910);
        CHECKS.due("year", x.count(2), 0);
        CHECKS.due("places", x.of(0, 3), 0);
        CHECKS.due("the draw", x.seed(6), 6);
        CHECKS.due("what may be undone", x.undo(), 0);
        CHECKS.due("is undone", Checks.seats(x), 901);
        CHECKS.due("sheets are not kept", x.drop(0), 7);
        CHECKS.due("the tape is not kept", x.read(), 1);
        CHECKS.due("both letters", x.of(0, 1), 4);
        CHECKS.due("an empty bench, too", new BattleBench().image(), 1);
    }

    private static void p27Restore() {
        CHECKS.sentence("All is as it was then: 1. NONE: there is none.");
        BattleBench x = Checks.bench("p9");
        CHECKS.due("there is none", x.restore(), NONE);
        x.image();
        x.nurse(0, 5);
        CHECKS.due("restored", x.restore(), 1);
        CHECKS.due("as it was", x.of(0, 1), 9);
        CHECKS.due("nothing to be undone, as then", x.undo(), NONE);
        x.nurse(0, 5);
        CHECKS.due("once more", x.restore(), 1);
        CHECKS.due("as it was again", x.of(0, 1), 9);
        x.nurse(0, 1);
        x.image();
        x.nurse(0, 1);
        x.restore();
        CHECKS.due("the later image", x.of(0, 1), 10);
        CHECKS.due("with what could be undone then", x.undo(), 0);
        wholePastIsKept();
        Checks.read(x, "u3");
        CHECKS.due("a bench told leaves it", x.restore(), 1);
        CHECKS.due("and it is whole", x.of(0, 1), 10);
    }

    private static void wholePastIsKept() {
        BattleBench x = Checks.bench("p1");
        for (int n = 0; n < 9; n++) {
            x.nurse(0, 1);
        }
        x.image();
        for (int n = 0; n < 9; n++) {
            x.nurse(0, 5);
        }
        x.restore();
        for (int life = 9; life >= 2; life--) {
            CHECKS.due("undone as then", x.undo(), life - 2);
            CHECKS.due("life as ahead of it", x.of(0, 1), life);
        }
        CHECKS.due("no more", x.undo(), NONE);
    }

    private static void p28Failed() {
        CHECKS.sentence("FAILED of one by n items of a SHEET taken as a row of a LANE, from item i on: KINDS (what 0), how many numbers (1), the least (2; NONE).");
        BattleBench x = Checks.bench("p9,p2");
        x.sheet(3, 1, 10);
        x.item(3, 1, 9, 7);
        CHECKS.due("kinds by the last item", x.failed(0, 3, 1, 9, 1, 0), 1 | 2);
        CHECKS.due("how many", x.failed(0, 3, 1, 9, 1, 1), 1);
        CHECKS.due("the least", x.failed(0, 3, 1, 9, 1, 2), 9);
        x.item(3, 1, 9, 59);
        CHECKS.due("none of them", x.failed(0, 3, 1, 9, 1, 2), NONE);

        CHECKS.sentence("failed: BAD; NULL; CAST; INDEX; NOT: he is off THE BENCH.");
        for (int man : Checks.outside(0, 1)) {
            CHECKS.due("man " + man, x.failed(man, 3, 1, 0, 1, 0), BAD);
        }
        for (int v : Checks.outside(0, 3)) {
            CHECKS.due("sheet " + v, x.failed(0, v, 1, 0, 1, 0), BAD);
            CHECKS.due("lane " + v, x.failed(0, 3, v, 0, 1, 0), BAD);
        }
        for (int n : Checks.outside(1, 8)) {
            CHECKS.due("n " + n, x.failed(0, 3, 1, 0, n, 0), BAD);
        }
        for (int what : Checks.outside(0, 2)) {
            CHECKS.due("what " + what, x.failed(0, 3, 1, 0, 1, what), BAD);
        }
        CHECKS.due("nothing there", x.failed(0, 0, 1, 0, 1, 0), NULL);
        for (int lane = 0; lane <= 3; lane++) {
            CHECKS.due("lane " + lane, x.failed(0, 3, lane, 0, 1, 1), lane == 1 ? 2 : CAST);
        }
        for (int i : Checks.outside(0, 2)) {
            CHECKS.due("from " + i, x.failed(0, 3, 1, i, 8, 0), INDEX);
        }
        CHECKS.due("the last eight", x.failed(0, 3, 1, 2, 8, 0), 0);
        x.years(1);
        CHECKS.due("off the bench", x.failed(1, 3, 1, 0, 1, 0), NOT);
        CHECKS.due("how many, too", x.failed(1, 3, 1, 0, 1, 1), NOT);
        CHECKS.due("and the least", x.failed(1, 3, 1, 0, 1, 2), NOT);
    }

    private static void p29Film() {
        CHECKS.sentence("LIFE of one behind 1, 2, .. n YEARS (1 .. 24), an item each, comes to a SHEET likewise: n.");
        BattleBench x = Checks.bench("p60,p2");
        x.sheet(3, 1, 24);
        for (int n : Checks.outside(1, 24)) {
            CHECKS.due("n " + n, x.film(0, n, 3, 1, 0), BAD);
        }
        CHECKS.due("24", x.film(0, 24, 3, 1, 0), 24);
        CHECKS.due("the first is behind 1", x.failed(0, 3, 1, 0, 1, 2), 60);
        CHECKS.due("the last is behind 24", x.failed(0, 3, 1, 23, 1, 2), 14);
        CHECKS.due("1, at the end", x.film(0, 1, 3, 1, 23), 1);
        CHECKS.due("the last then", x.failed(0, 3, 1, 23, 1, 2), 60);
        CHECKS.due("the one ahead of it stays", x.failed(0, 3, 1, 22, 1, 2), 16);
        CHECKS.due("2, in the middle", x.film(0, 2, 3, 1, 10), 2);
        CHECKS.due("the one ahead of them stays", x.failed(0, 3, 1, 9, 1, 2), 42);
        CHECKS.due("their second", x.failed(0, 3, 1, 11, 1, 2), 58);
        CHECKS.due("the one behind them stays", x.failed(0, 3, 1, 12, 1, 2), 36);

        CHECKS.sentence("film: BAD; NULL; CAST; INDEX.");
        for (int man : Checks.outside(0, 1)) {
            CHECKS.due("man " + man, x.film(man, 1, 3, 1, 0), BAD);
        }
        for (int v : Checks.outside(0, 3)) {
            CHECKS.due("sheet " + v, x.film(0, 1, v, 1, 0), BAD);
            CHECKS.due("lane " + v, x.film(0, 1, 3, v, 0), BAD);
        }
        CHECKS.due("nothing there", x.film(0, 1, 0, 1, 0), NULL);
        for (int lane = 0; lane <= 3; lane++) {
            CHECKS.due("lane " + lane, x.film(0, 1, 3, lane, 0), lane == 1 ? 1 : CAST);
        }
        for (int i : Checks.outside(0, 14)) {
            CHECKS.due("from " + i, x.film(0, 10, 3, 1, i), INDEX);
        }
        CHECKS.due("the last ten", x.film(0, 10, 3, 1, 14), 10);
        x.years(1);
        CHECKS.due("who is off the bench is filmed", x.film(1, 2, 3, 1, 0), 2);
        x.sheet(2, 0, 0);
        CHECKS.due("an empty row", x.film(0, 1, 2, 0, 0), INDEX);
    }

    private static void p30Sheet() {
        CHECKS.sentence("A SHEET holds a new row of a LANE: n. BAD: also n above 24; SIZE: n below 0.");
        BattleBench x = Checks.bench("p9");
        for (int v : Checks.outside(0, 3)) {
            CHECKS.due("sheet " + v, x.sheet(v, 0, 1), BAD);
            CHECKS.due("lane " + v, x.sheet(0, v, 1), BAD);
        }
        CHECKS.due("25", x.sheet(0, 0, 25), BAD);
        CHECKS.due("most", x.sheet(0, 0, MOST), BAD);
        CHECKS.due("-1", x.sheet(0, 0, -1), SIZE);
        CHECKS.due("least", x.sheet(0, 0, LEAST), SIZE);
        CHECKS.due("nothing there", x.drop(0), NULL);
        for (int v = 0; v <= 3; v++) {
            CHECKS.due("0 items", x.sheet(v, v, 0), 0);
            CHECKS.due("24 items", x.sheet(v, v, 24), 24);
            CHECKS.due("the first", x.item(v, v, 0, 7), 1);
            CHECKS.due("the last", x.item(v, v, 23, 7), 1);
            CHECKS.due("of its lane", x.item(v, (v + 1) % 4, 23, 7), CAST);
            CHECKS.due("a new row", x.sheet(v, v, 24), 24);
            CHECKS.due("begins with a zero", x.failed(0, v, v, 0, 1, 2), 1);
            CHECKS.due("and ends with one", x.failed(0, v, v, 23, 1, 2), 1);
        }
        x.item(0, 0, 5, 7);
        CHECKS.due("-1 again", x.sheet(0, 1, -1), SIZE);
        CHECKS.due("the old row stays", x.failed(0, 0, 0, 5, 1, 2), 9);
    }

    private static void p31Drop() {
        CHECKS.sentence("A SHEET holds nothing: how many items it had. BAD; NULL.");
        BattleBench x = Checks.bench("p9");
        for (int v : Checks.outside(0, 3)) {
            CHECKS.due("sheet " + v, x.drop(v), BAD);
        }
        for (int v = 0; v <= 3; v++) {
            CHECKS.due("nothing yet", x.drop(v), NULL);
            x.sheet(v, v, 24);
            CHECKS.due("24", x.drop(v), 24);
            CHECKS.due("nothing now", x.drop(v), NULL);
            x.sheet(v, v, 0);
            CHECKS.due("0", x.drop(v), 0);
            CHECKS.due("nothing again", x.item(v, v, 0, 1), NULL);
        }
    }

    private static void p32Item() {
        CHECKS.sentence("Item i of a SHEET, taken as a row of a LANE, becomes v, its lowest bits: 1.");
        BattleBench x = Checks.bench("p9");
        long[] edges = {127, 32767, 2147483647L, Long.MAX_VALUE};
        for (int lane = 0; lane <= 3; lane++) {
            x.sheet(lane, lane, 24);
            CHECKS.due("the first", x.item(lane, lane, 0, 7), 1);
            CHECKS.due("the last", x.item(lane, lane, 23, 7), 1);
            CHECKS.due("is 7", x.failed(0, lane, lane, 23, 1, 2), 9);
            // 2 * edge + 2 is the first number whose lowest bits are all 0; for longs it wraps to 0 itself.
            CHECKS.due("cut", x.item(lane, lane, 1, 2 * edges[lane] + 2 + 7), 1);
            CHECKS.due("is 7, too", x.failed(0, lane, lane, 1, 1, 2), 9);
            x.item(lane, lane, 1, edges[lane] + 1 + 7);
            CHECKS.due("the highest bit counts", x.failed(0, lane, lane, 1, 1, 2), NONE);
            x.item(lane, lane, 1, -1);
            CHECKS.due("below 0", x.failed(0, lane, lane, 1, 1, 2), NONE);
        }

        CHECKS.sentence("item: BAD; NULL; CAST; INDEX.");
        for (int v : Checks.outside(0, 3)) {
            CHECKS.due("sheet " + v, x.item(v, 0, 0, 1), BAD);
            CHECKS.due("lane " + v, x.item(0, v, 0, 1), BAD);
        }
        for (int i : Checks.outside(0, 23)) {
            CHECKS.due("item " + i, x.item(0, 0, i, 1), INDEX);
        }
        CHECKS.due("another lane", x.item(0, 3, 0, 1), CAST);
        x.drop(0);
        CHECKS.due("nothing there", x.item(0, 0, 0, 1), NULL);
    }

    private static void p33Copy() {
        CHECKS.sentence("n items of a SHEET from i on come to another one (or the same) from j on, as if all were taken ahead: n.");
        BattleBench x = Checks.bench("p9");
        x.sheet(0, 2, 24);
        x.sheet(1, 2, 24);
        for (int i = 0; i < 24; i++) {
            x.item(0, 2, i, 1 + i);
        }
        CHECKS.due("all", x.copy(0, 0, 1, 0, 24), 24);
        row("all", x, 1, 1, 24);
        CHECKS.due("upward", x.copy(0, 0, 0, 1, 23), 23);
        row("upward, the first stays", x, 0, 1, 1);
        CHECKS.due("the last", x.failed(0, 0, 2, 23, 1, 2), 23 + 2);
        CHECKS.due("the second", x.failed(0, 0, 2, 1, 1, 2), 1 + 2);
        CHECKS.due("downward", x.copy(1, 1, 1, 0, 23), 23);
        row("downward", x, 1, 2, 23);
        CHECKS.due("the last stays", x.failed(0, 1, 2, 23, 1, 2), 24 + 2);
        CHECKS.due("onto itself", x.copy(1, 5, 1, 5, 19), 19);
        row("as it was", x, 1, 2, 23);

        CHECKS.sentence("copy: INDEX.");
        CHECKS.due("none", x.copy(0, 0, 1, 0, 0), 0);
        CHECKS.due("none from the end", x.copy(0, 24, 1, 24, 0), 0);
        CHECKS.due("none from behind it", x.copy(0, 25, 1, 0, 0), INDEX);
        CHECKS.due("none to behind it", x.copy(0, 0, 1, 25, 0), INDEX);
        CHECKS.due("the last", x.copy(0, 23, 1, 23, 1), 1);
        CHECKS.due("behind the last", x.copy(0, 24, 1, 0, 1), INDEX);
        CHECKS.due("to behind the last", x.copy(0, 0, 1, 24, 1), INDEX);
        for (int v : new int[] {-1, LEAST, MOST}) {
            CHECKS.due("i " + v, x.copy(0, v, 1, 0, 1), INDEX);
            CHECKS.due("j " + v, x.copy(0, 0, 1, v, 1), INDEX);
            CHECKS.due("n " + v, x.copy(0, 0, 1, 0, v), INDEX);
            CHECKS.due("all " + v, x.copy(0, v, 1, v, v), INDEX);
            CHECKS.due("i and n " + v, x.copy(0, v, 1, 0, v), INDEX);
        }
        CHECKS.due("25", x.copy(0, 0, 1, 0, 25), INDEX);
        x.sheet(1, 2, 3);
        CHECKS.due("four to three", x.copy(0, 0, 1, 0, 4), INDEX);
        CHECKS.due("four from three", x.copy(1, 0, 0, 0, 4), INDEX);
        CHECKS.due("three", x.copy(0, 0, 1, 0, 3), 3);
        x.sheet(2, 2, 0);
        CHECKS.due("none of an empty row", x.copy(2, 0, 2, 0, 0), 0);

        CHECKS.sentence("copy: BAD; NULL (either); CAST: of unlike LANES");
        for (int v : Checks.outside(0, 3)) {
            CHECKS.due("from " + v, x.copy(v, 0, 0, 0, 1), BAD);
            CHECKS.due("to " + v, x.copy(0, 0, v, 0, 1), BAD);
        }
        CHECKS.due("to nothing", x.copy(0, 0, 3, 0, 1), NULL);
        CHECKS.due("from nothing", x.copy(3, 0, 0, 0, 1), NULL);
        CHECKS.due("from nothing to the same", x.copy(3, 0, 3, 0, 0), NULL);
        for (int lane = 0; lane <= 3; lane++) {
            x.sheet(3, lane, 24);
            CHECKS.due("to lane " + lane, x.copy(0, 0, 3, 0, 1), lane == 2 ? 1 : CAST);
            CHECKS.due("from lane " + lane, x.copy(3, 0, 0, 0, 1), lane == 2 ? 1 : CAST);
        }
    }

    /** Items from 0 on are the numbers from first on: a plain man of 2 more would fail so. */
    private static void row(String call, BattleBench x, int sheet, int first, int n) {
        for (int i = 0; i < n; i++) {
            CHECKS.due(call + ", item " + i, x.failed(0, sheet, 2, i, 1, 2), first + i + 2);
        }
    }

    private static void atMost512Calls() {
        CHECKS.sentence("An object is used for at most 512 calls after it has been made");
        BattleBench x = new BattleBench();
        x.man(1, 60);
        x.man(3, 60);
        for (int call = 3; call <= 510; call++) {
            x.move(0);
        }
        CHECKS.due("call 511", x.undo(), 7);
        CHECKS.due("call 512", x.seat(0), 1);
    }
}
