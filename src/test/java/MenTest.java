/** Promises 1 to 5 and 8: a new object, man, stood, of, seat, count. */
final class MenTest {
    private static final Checks CHECKS = new Checks();

    public static void main(String[] args) {
        newObject();
        men();
        whereTheyStood();
        whoStoodBy();
        whoSitsBy();
        howTheyFail();
        seats();
        counts();
        CHECKS.end();
    }

    private static void newObject() {
        BattleBench x = new BattleBench();
        for (int what = 0; what <= 6; what++) {
            CHECKS.due("new count " + what, x.count(what), 0);
        }
        CHECKS.due("new seat", x.seat(0), -4);
        CHECKS.due("new of", x.of(0, 0), -1);
        CHECKS.due("new draw", x.seed(5), 1);
        CHECKS.due("new undo", x.undo(), -4);
        CHECKS.due("new restore", x.restore(), -4);
        CHECKS.due("new read", x.read(), -20);
        for (int s = 0; s < 4; s++) {
            CHECKS.due("new sheet " + s, x.drop(s), -11);
        }
    }

    private static void men() {
        BattleBench x = new BattleBench();
        CHECKS.due("kind below", x.man(-1, 5), -1);
        CHECKS.due("kind above", x.man(5, 5), -1);
        CHECKS.due("life 0", x.man(0, 0), -1);
        CHECKS.due("life below", x.man(0, -7), -1);
        CHECKS.due("life 61", x.man(0, 61), -1);
        CHECKS.due("none came", x.count(0), 0);
        for (int man = 0; man < 6; man++) {
            CHECKS.due("man " + man, x.man(man % 5, man == 0 ? 60 : man), man);
            CHECKS.due("kind of " + man, x.of(man, 0), man % 5);
            CHECKS.due("life of " + man, x.of(man, 1), man == 0 ? 60 : man);
            CHECKS.due("seat of " + man, x.of(man, 2), man);
            for (int hour = 0; hour < 3; hour++) {
                CHECKS.due("place of " + man, x.of(man, 3 + hour), man);
            }
        }
        CHECKS.due("a seventh", x.man(0, 5), -3);
        CHECKS.due("a seventh, not as told", x.man(0, 61), -1);
        CHECKS.due("no seventh", x.count(0), 6);
        x.stood(0, 1, 6);
        CHECKS.due("full ahead of not", x.man(0, 5), -3);

        for (int hour = 0; hour < 3; hour++) {
            x = new BattleBench();
            x.man(0, 5);
            x.stood(0, hour, 1);
            CHECKS.due("his place is taken at hour " + hour, x.man(0, 5), -2);
            CHECKS.due("bad ahead of not", x.man(9, 5), -1);
            CHECKS.due("he did not come", x.count(0), 1);
            x.stood(0, hour, 0);
            CHECKS.due("his place is free", x.man(0, 5), 1);
        }

        x = Checks.bench("p2,p9");
        x.years(1);
        CHECKS.due("he comes the last, the dead keep their numbers", x.man(1, 3), 2);
        CHECKS.due("seats", Checks.seats(x), 912);
        CHECKS.due("a new man leaves nothing to be undone", x.count(6), 0);
        CHECKS.due("nothing", x.undo(), -4);
        CHECKS.due("the year goes on", x.count(2), 1);

        x = Checks.bench("p9");
        x.years(1);
        CHECKS.due("refused", x.man(0, 0), -1);
        CHECKS.due("what is refused forgets nothing", x.count(6), 1);
    }

    private static void whereTheyStood() {
        BattleBench x = Checks.bench("p5,h9");
        CHECKS.due("no such man", x.stood(2, 0, 5), -1);
        CHECKS.due("man below", x.stood(-1, 0, 5), -1);
        CHECKS.due("hour above", x.stood(0, 3, 5), -1);
        CHECKS.due("hour below", x.stood(0, -1, 5), -1);
        CHECKS.due("place above", x.stood(0, 0, 10), -1);
        CHECKS.due("place below", x.stood(0, 0, -1), -1);
        CHECKS.due("himself", x.stood(0, 0, 0), -2);
        CHECKS.due("another", x.stood(0, 0, 1), -2);
        CHECKS.due("told", x.stood(0, 0, 9), 0);
        CHECKS.due("told again", x.stood(0, 0, 5), 9);
        CHECKS.due("at this hour", x.of(0, 3), 5);
        CHECKS.due("not at that", x.of(0, 4), 0);
        CHECKS.due("another hour is another row", x.stood(1, 1, 5), 1);
        CHECKS.due("what is left is free", x.stood(1, 0, 0), 1);
        x.years(6);
        CHECKS.due("off the bench", x.of(0, 2), -4);
        CHECKS.due("the dead stood, too", x.stood(1, 0, 5), -2);
        CHECKS.due("and may be told otherwise", x.stood(0, 0, 6), 5);
        CHECKS.due("nothing is forgotten", x.count(6), 6);
    }

    private static void whoStoodBy() {
        BattleBench x = Checks.bench("p9,p9,p9,p1");
        CHECKS.due("by 0", x.of(0, 6), 2);
        CHECKS.due("by 1", x.of(1, 6), 5);
        CHECKS.due("by 3", x.of(3, 6), 4);
        x.stood(0, 2, 9);
        CHECKS.due("at one hour at least", x.of(0, 6), 10);
        CHECKS.due("and the other way", x.of(3, 6), 5);
        x.years(1);
        CHECKS.due("3 is dead", x.of(3, 2), -4);
        CHECKS.due("dead or not", x.of(0, 6), 10);
        CHECKS.due("the dead stand between", x.of(2, 6), 10);
        CHECKS.due("alone", Checks.bench("p5").of(0, 6), 0);
        x = Checks.bench("p9.090,p9.909");
        CHECKS.due("far, but nobody between", x.of(0, 6), 2);
        x.man(0, 9);
        CHECKS.due("a new man stands between", x.of(0, 6), 4);
    }

    private static void whoSitsBy() {
        BattleBench x = Checks.bench("p9,p2,p9,p9");
        CHECKS.due("at the left", x.of(0, 7), 2);
        CHECKS.due("between", x.of(1, 7), 5);
        CHECKS.due("at the right", x.of(3, 7), 4);
        x.move(0);
        CHECKS.due("seat then", x.of(0, 2), 1);
        CHECKS.due("moved", x.of(0, 7), 6);
        x.years(1);
        CHECKS.due("closed up", x.of(0, 7), 4);
        CHECKS.due("off the bench", x.of(1, 7), 0);
        CHECKS.due("alone", Checks.bench("p5").of(0, 7), 0);
    }

    private static void howTheyFail() {
        BattleBench x = Checks.bench("d60,p60,h60,u60,d60,r60");
        int[] even = {3, 2, 2, 4, 2, 3};
        int[] odd = {1, 2, 0, 4, 0, 3};
        for (int man = 0; man < 6; man++) {
            CHECKS.due("even year " + man, x.of(man, 8), even[man]);
        }
        x.years(1);
        for (int man = 0; man < 6; man++) {
            CHECKS.due("odd year " + man, x.of(man, 8), odd[man]);
            CHECKS.due("life " + man, x.of(man, 1), 60 - even[man]);
        }
        x.move(4);
        CHECKS.due("a drummer at the end", x.of(4, 8), 1);
        CHECKS.due("a runner by one he stood by and one he did not", x.of(5, 8), 3);
        x.move(3);
        CHECKS.due("a runner by none he stood by", x.of(5, 8), 4);
        x = Checks.bench("p9,r9,p1");
        CHECKS.due("a runner by two he stood by", x.of(1, 8), 2);
        x.years(1);
        CHECKS.due("by one", x.of(1, 8), 3);
        x = Checks.bench("d1");
        CHECKS.due("one alone is at an end, once", x.of(0, 8), 3);
        x.years(1);
        CHECKS.due("life is 0 at least", x.of(0, 1), 0);
        CHECKS.due("off the bench", x.of(0, 8), 0);
        x = Checks.bench("r1");
        CHECKS.due("a runner alone, whatever life he has", x.of(0, 8), 4);
        x = Checks.bench("p1,p1");
        CHECKS.due("what above", x.of(0, 9), -1);
        CHECKS.due("what below", x.of(0, -1), -1);
        CHECKS.due("no such man", x.of(2, 1), -1);
        CHECKS.due("man below", x.of(-1, 1), -1);
    }

    private static void seats() {
        BattleBench x = Checks.bench("p4,p2,p4");
        CHECKS.due("below", x.seat(-1), -1);
        CHECKS.due("least of all", x.seat(Integer.MIN_VALUE), -1);
        CHECKS.due("first", x.seat(0), 0);
        CHECKS.due("last", x.seat(2), 2);
        CHECKS.due("nobody", x.seat(3), -4);
        CHECKS.due("far off", x.seat(Integer.MAX_VALUE), -4);
        x.years(1);
        CHECKS.due("close up", Checks.seats(x), 902);
        x.years(1);
        CHECKS.due("all gone", x.seat(0), -4);
    }

    private static void counts() {
        BattleBench x = Checks.bench("p9.012,h8.120,u4.201,p7");
        CHECKS.due("men", x.count(0), 4);
        CHECKS.due("seated", x.count(1), 4);
        CHECKS.due("year", x.count(2), 0);
        CHECKS.due("who", x.count(3), 15);
        CHECKS.due("life", x.count(4), 28);
        CHECKS.due("undo", x.count(6), 0);
        x.years(1);
        CHECKS.due("men, the dead too", x.count(0), 4);
        CHECKS.due("seated then", x.count(1), 3);
        CHECKS.due("year then", x.count(2), 1);
        CHECKS.due("who then", x.count(3), 11);
        CHECKS.due("life then", x.count(4), 7 + 6 + 5);
        CHECKS.due("undo then", x.count(6), 1);
        CHECKS.due("above", x.count(7), -1);
        CHECKS.due("below", x.count(-1), -1);
        x = Checks.bench("p9,p9,p9,p9");
        CHECKS.due("none wrong", x.count(5), 0);
        x.move(1);
        CHECKS.due("0 2 1 3", x.count(5), 2);
        x.move(0);
        CHECKS.due("2 0 1 3", x.count(5), 2);
        x.move(2);
        CHECKS.due("2 0 3 1", x.count(5), 3);
    }
}
