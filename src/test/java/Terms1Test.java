/** Each sentence of the document's Terms, part 1, that names a boundary case; part 2 and 3 have tests of their own. */
final class Terms1Test {
    private static final Checks CHECKS = new Checks();
    private static final int BAD = -1, NOT = -2, FULL = -3, NONE = -4;

    public static void main(String[] args) {
        menHaveNumbers();
        lifeOfWhoComes();
        placesAndHours();
        placeOfHisNumber();
        noTwoAtOnePlace();
        seatsWithoutGaps();
        whoHasNoLife();
        theFirstYear();
        whoStoodBy();
        whoStoodByAnew();
        whoSitsBy();
        plainFails();
        haleFails();
        hurtFails();
        drummerFails();
        runnerFails();
        allFailAtOnce();
        lifeIsZeroAtLeast();
        othersCloseUp();
        theNextYear();
        twoChangeSeats();
        sixtyAtMost();
        anotherPlaceThatIsFree();
        CHECKS.end();
    }

    private static void menHaveNumbers() {
        CHECKS.sentence("MEN 0 .. 5, as they come");
        BattleBench x = new BattleBench();
        CHECKS.due("there is none yet", x.of(0, 1), BAD);
        for (int man = 0; man <= 5; man++) {
            CHECKS.due("the next number", x.of(man, 1), BAD);
            CHECKS.due("comes", x.man(0, 10 + man), man);
            CHECKS.due("and is his", x.of(man, 1), 10 + man);
        }
        CHECKS.due("no seventh comes", x.man(0, 9), FULL);
        for (int man : Checks.outside(0, 5)) {
            CHECKS.due("no such man " + man, x.of(man, 1), BAD);
        }
    }

    private static void lifeOfWhoComes() {
        CHECKS.sentence("have LIFE 0 .. 60 (as told, above 0)");
        BattleBench x = new BattleBench();
        for (int life : Checks.outside(1, 60)) {
            CHECKS.due("life " + life, x.man(0, life), BAD);
        }
        CHECKS.due("life 1", x.man(0, 1), 0);
        CHECKS.due("life 60", x.man(0, 60), 1);
        CHECKS.due("is 1", x.of(0, 1), 1);
        CHECKS.due("is 60", x.of(1, 1), 60);
        x.years(1);
        CHECKS.due("0 behind a year", x.of(0, 1), 0);
    }

    private static void placesAndHours() {
        CHECKS.sentence("stood at a PLACE (0 .. 9) at each of the HOURS 0 .. 2");
        BattleBench x = Checks.bench("p9.555");
        for (int hour = 0; hour <= 2; hour++) {
            for (int place : Checks.outside(0, 9)) {
                CHECKS.due("place " + place, x.stood(0, hour, place), BAD);
            }
            CHECKS.due("place 0", x.stood(0, hour, 0), 5);
            CHECKS.due("place 9", x.stood(0, hour, 9), 0);
            CHECKS.due("is 9", x.of(0, 3 + hour), 9);
        }
        for (int hour : Checks.outside(0, 2)) {
            CHECKS.due("stood at hour " + hour, x.stood(0, hour, 4), BAD);
            CHECKS.due("swaps at hour " + hour, x.swaps(hour), BAD);
            CHECKS.due("stay at hour " + hour, x.stay(hour, 0), BAD);
        }
    }

    private static void placeOfHisNumber() {
        CHECKS.sentence("(as they come: at the PLACE of their own number at each)");
        BattleBench x = new BattleBench();
        for (int man = 0; man <= 5; man++) {
            x.man(0, 9);
            for (int hour = 0; hour <= 2; hour++) {
                CHECKS.due("place of " + man, x.of(man, 3 + hour), man);
            }
        }
        x = Checks.bench("p9.876,p9,p9.789");
        CHECKS.due("the fourth comes", x.man(0, 9), 3);
        CHECKS.due("by his number, not by who is there", x.of(3, 4), 3);
    }

    private static void noTwoAtOnePlace() {
        CHECKS.sentence("no two at one PLACE at one HOUR");
        BattleBench x = Checks.bench("p9,p9");
        for (int hour = 0; hour <= 2; hour++) {
            CHECKS.due("at one hour", x.stood(0, hour, 1), NOT);
            CHECKS.due("and the other", x.stood(1, hour, 0), NOT);
        }
        CHECKS.due("free at this hour", x.stood(0, 0, 7), 0);
        CHECKS.due("and at that", x.stood(1, 1, 7), 1);
        CHECKS.due("no longer", x.stood(1, 0, 7), NOT);
        CHECKS.due("nor there", x.stood(0, 1, 7), NOT);
        CHECKS.due("the third hour is free still", x.stood(1, 2, 7), 1);
    }

    private static void seatsWithoutGaps() {
        CHECKS.sentence("Who has LIFE sits on THE BENCH (SEATS 0 and on, without gaps), as they come the last");
        BattleBench x = new BattleBench();
        CHECKS.due("nobody", x.seat(0), NONE);
        for (int man = 0; man <= 4; man++) {
            x.man(0, man == 1 || man == 3 ? 2 : 20);
            CHECKS.due("the last seat", x.seat(man), man);
            CHECKS.due("nobody behind", x.seat(man + 1), NONE);
        }
        x.move(0);
        x.years(1);
        CHECKS.due("without gaps", Checks.seats(x), 9024);
        CHECKS.due("the sixth comes", x.man(0, 1), 5);
        CHECKS.due("the last behind who is left", Checks.seats(x), 90245);
        CHECKS.due("his seat is not his number", x.of(5, 2), 3);
    }

    private static void whoHasNoLife() {
        CHECKS.sentence("who has none any more is not there");
        BattleBench x = Checks.bench("p9,p2,p9");
        x.years(1);
        CHECKS.due("no seat", x.of(1, 2), NONE);
        CHECKS.due("nobody by him", x.of(1, 7), 0);
        CHECKS.due("he fails no more", x.of(1, 8), 0);
        CHECKS.due("not by the others", x.of(0, 7), 4);
        CHECKS.due("not among who is there", x.count(3), 5);
        CHECKS.due("two are there", x.count(1), 2);
        CHECKS.due("he is a man still", x.count(0), 3);
        CHECKS.due("of his kind", x.of(1, 0), 0);
        CHECKS.due("without life", x.of(1, 1), 0);
    }

    private static void theFirstYear() {
        CHECKS.sentence("It is YEAR 0 at first.");
        BattleBench x = new BattleBench();
        CHECKS.due("year", x.count(2), 0);
        x.man(1, 9);
        CHECKS.due("with a man", x.count(2), 0);
        CHECKS.due("and it is even", x.of(0, 8), 2);
    }

    private static void whoStoodBy() {
        CHECKS.sentence("Two STOOD BY one another, if at an HOUR at least none of all MEN (dead or not) stood between them.");
        for (int hour = 0; hour <= 2; hour++) {
            BattleBench x = Checks.bench("p9,p9,p9");
            CHECKS.due("one stood between at each hour", x.of(0, 6), 2);
            x.stood(1, hour, 9);
            CHECKS.due("not at hour " + hour, x.of(0, 6), 6);
            CHECKS.due("and the other way", x.of(2, 6), 3);
            CHECKS.due("he between at others", x.of(1, 6), 5);
        }
        BattleBench x = Checks.bench("p9.000,p9.999");
        CHECKS.due("from 0 to 9 with none between", x.of(0, 6), 2);
        CHECKS.due("and back", x.of(1, 6), 1);
        x = Checks.bench("p9.000,p9.999,p2.111,u4.888");
        CHECKS.due("two between", x.of(0, 6), 4);
        x.years(1);
        CHECKS.due("both are dead", x.count(3), 3);
        CHECKS.due("dead or not", x.of(0, 6), 4);
        CHECKS.due("the dead stood by the living", x.of(3, 6), 6);
        CHECKS.due("nobody by one alone, not himself", Checks.bench("p9").of(0, 6), 0);
    }

    private static void whoStoodByAnew() {
        CHECKS.sentence("none of all MEN (dead or not) stood between them");
        BattleBench x = Checks.bench("p9.000,p9.999");
        x.man(0, 9);
        CHECKS.due("a new man stands between", x.of(0, 6), 4);
        CHECKS.due("by both of them", x.of(2, 6), 3);
        x = Checks.bench("p9.000,p9.111,p9.222");
        x.stood(1, 0, 3);
        CHECKS.due("nobody between at one hour", x.of(0, 6), 6);
        x.stood(1, 0, 1);
        CHECKS.due("he is between again", x.of(0, 6), 2);
        CHECKS.due("man 0 stands between", Checks.bench("p9.555,p9.000,p9.999").of(1, 6), 1);
        CHECKS.due("man 1 stands between", Checks.bench("p9.000,p9.555,p9.999").of(2, 6), 2);
        CHECKS.due("man 2 stands between", Checks.bench("p9.000,p9.999,p9.555").of(0, 6), 4);
        CHECKS.due("the last of six stands between", Checks.bench("p9,p9,p9,p9,p9.999,p9.888").of(3, 6), 4 | 32);
    }

    private static void whoSitsBy() {
        CHECKS.sentence("Two SIT BY one another, if their SEATS are next to one another.");
        BattleBench x = Checks.bench("p9,p9,p9,p9,p9,p9");
        int[] by = {2, 5, 10, 20, 40, 16};
        for (int man = 0; man <= 5; man++) {
            CHECKS.due("by " + man, x.of(man, 7), by[man]);
        }
        CHECKS.due("the ends are not next to one another", x.close(0, 5), NONE);
        x = Checks.bench("p9,p9");
        CHECKS.due("two", x.of(0, 7), 2);
        CHECKS.due("and back", x.of(1, 7), 1);
        x = Checks.bench("p9,p9,p9");
        CHECKS.due("not round the end", x.of(2, 7), 2);
        CHECKS.due("alone", Checks.bench("p9").of(0, 7), 0);
    }

    private static void plainFails() {
        CHECKS.sentence("0 PLAIN: 2.");
        BattleBench x = Checks.bench("p9,p9,p9");
        for (int year = 0; year <= 3; year++) {
            CHECKS.due("at an end in year " + year, x.of(0, 8), 2);
            CHECKS.due("between in year " + year, x.of(1, 8), 2);
            x.years(1);
        }
        CHECKS.due("behind four", Checks.lives(x), 9010101);
        CHECKS.due("he fails by 2, whatever life he has", x.of(0, 8), 2);
    }

    private static void haleFails() {
        CHECKS.sentence("1 HALE: as PLAIN in YEARS of an even number, else 0.");
        BattleBench x = Checks.bench("h5");
        int[] lives = {5, 3, 3, 1, 1, 0};
        for (int year = 0; year < lives.length; year++) {
            CHECKS.due("life ahead of year " + year, x.of(0, 1), lives[year]);
            CHECKS.due("fails in year " + year, x.of(0, 8), lives[year] == 0 || year % 2 == 1 ? 0 : 2);
            x.years(1);
        }
    }

    private static void hurtFails() {
        CHECKS.sentence("2 HURT (below PLAIN): twice as much as PLAIN.");
        BattleBench x = Checks.bench("u9");
        CHECKS.due("even", x.of(0, 8), 4);
        x.years(1);
        CHECKS.due("odd", x.of(0, 8), 4);
        CHECKS.due("life", x.of(0, 1), 5);
    }

    private static void drummerFails() {
        CHECKS.sentence("3 DRUMMER (below HALE): as HALE; 1 more, if he sits at an end of THE BENCH.");
        BattleBench x = Checks.bench("d9,d9,d9,d9");
        for (int year = 0; year <= 1; year++) {
            int hale = year == 0 ? 2 : 0;
            CHECKS.due("at the left", x.of(0, 8), hale + 1);
            CHECKS.due("next to it", x.of(1, 8), hale);
            CHECKS.due("next to the right", x.of(2, 8), hale);
            CHECKS.due("at the right", x.of(3, 8), hale + 1);
            x.years(1);
        }
        CHECKS.due("behind two", Checks.lives(x), 905070705L);
        x = Checks.bench("d9,d9");
        CHECKS.due("two are both at an end", x.of(0, 8) + x.of(1, 8), 6);
        x = Checks.bench("d9");
        CHECKS.due("one alone is at an end", x.of(0, 8), 3);
        x.years(1);
        CHECKS.due("in an odd year, too", x.of(0, 8), 1);
        CHECKS.due("he failed by 3", x.of(0, 1), 6);
    }

    private static void runnerFails() {
        CHECKS.sentence("as HURT; 1 less for each who SITS BY him and STOOD BY him (0 at least).");
        CHECKS.due("nobody", Checks.bench("r9").of(0, 8), 4);
        CHECKS.due("one at the right", Checks.bench("r9,p9").of(0, 8), 3);
        CHECKS.due("one at the left", Checks.bench("p9,r9").of(1, 8), 3);
        BattleBench x = Checks.bench("p9,r9,p9,p9");
        CHECKS.due("both", x.of(1, 8), 2);
        x.move(0);
        CHECKS.due("who stood by him, but sits not by him", x.of(1, 8), 3);
        x.undo();
        x.move(1);
        x.move(2);
        CHECKS.due("who sits by him, but stood not by him", x.of(1, 8), 4);
        x.undo();
        CHECKS.due("one of two", x.of(1, 8), 3);
        x.years(1);
        CHECKS.due("in an odd year, too", x.of(1, 8), 3);
        CHECKS.due("life", x.of(1, 1), 6);
    }

    private static void allFailAtOnce() {
        CHECKS.sentence("A YEAR: all FAIL, by how all is ahead of it");
        BattleBench x = Checks.bench("p2,r3,p2");
        CHECKS.due("they die at his sides", x.years(1), 2);
        CHECKS.due("who made him fail by 2", x.of(1, 1), 1);
        x = Checks.bench("p2,d3,p2");
        x.years(1);
        CHECKS.due("he was between still", x.of(1, 1), 1);
        x = Checks.bench("r4,r4");
        x.years(1);
        CHECKS.due("each by the other", Checks.lives(x), 90101);
        x = Checks.bench("h9");
        x.years(1);
        CHECKS.due("by the year ahead of it", x.of(0, 1), 7);
        x.years(1);
        CHECKS.due("and by the next", x.of(0, 1), 7);
    }

    private static void lifeIsZeroAtLeast() {
        CHECKS.sentence("(LIFE 0 at least)");
        BattleBench x = Checks.bench("p1,h1,u1,d1,r1,u3");
        CHECKS.due("foretold", x.ahead(2, 1), 0);
        CHECKS.due("nobody is left", x.years(1), 0);
        CHECKS.due("all are at 0", Checks.lives(x), 9000000000000L);
        x.years(1);
        CHECKS.due("and stay there", Checks.lives(x), 9000000000000L);
        CHECKS.due("together, too", x.count(4), 0);
    }

    private static void othersCloseUp() {
        CHECKS.sentence("then those without LIFE are off THE BENCH, the others close up.");
        String[] benches = {"p2,p3,p3,p3", "p3,p3,p3,p2", "p3,p2,p2,p3", "p2,p3,p2,p3", "p2,p2,p2,p2", "p2,p2,p2,p3"};
        int[] seats = {9123, 9012, 903, 913, 9, 93};
        for (int b = 0; b < benches.length; b++) {
            BattleBench x = Checks.bench(benches[b]);
            x.years(1);
            CHECKS.due(benches[b] + " behind a year", Checks.seats(x), seats[b]);
        }
        BattleBench x = Checks.bench("p3,p2,p3,p3");
        x.move(2);
        x.years(1);
        CHECKS.due("in the order in which they sat", Checks.seats(x), 9032);
    }

    private static void theNextYear() {
        CHECKS.sentence("It is the next YEAR.");
        BattleBench x = new BattleBench();
        x.years(1);
        CHECKS.due("with nobody there", x.count(2), 1);
        x.years(40);
        CHECKS.due("forty more", x.count(2), 41);
        x.drift(2);
        CHECKS.due("by a drift, too", x.count(2), 43);
    }

    private static void twoChangeSeats() {
        CHECKS.sentence("MOVED: two on SEATS k, k and 1 change seats.");
        BattleBench x = Checks.bench("p9,p9,p9,p9,p9,p9");
        CHECKS.due("the first two", x.move(0), 1);
        CHECKS.due("seats", Checks.seats(x), 9102345);
        CHECKS.due("the last two", x.move(4), 5);
        CHECKS.due("seats then", Checks.seats(x), 9102354);
        CHECKS.due("the last has nobody behind him", x.move(5), BAD);
        CHECKS.due("no change round the end", Checks.seats(x), 9102354);
    }

    private static void sixtyAtMost() {
        CHECKS.sentence("NURSED: LIFE of one on THE BENCH is n more (60 at most).");
        int[][] cases = {{1, 1, 2}, {1, 58, 59}, {1, 59, 60}, {1, 60, 60}, {59, 1, 60}, {60, 1, 60}, {60, 60, 60}};
        for (int[] one : cases) {
            BattleBench x = new BattleBench();
            x.man(0, one[0]);
            CHECKS.due(one[0] + " and " + one[1] + " more", x.nurse(0, one[1]), one[2]);
            CHECKS.due("is it then", x.of(0, 1), one[2]);
        }
        BattleBench x = Checks.bench("p9,p9");
        x.nurse(1, 5);
        CHECKS.due("his alone", Checks.lives(x), 90914);
    }

    private static void anotherPlaceThatIsFree() {
        CHECKS.sentence("TOLD otherwise: a man stood at another PLACE (that is free) at an HOUR.");
        BattleBench x = Checks.bench("p2,p9");
        CHECKS.due("his own is no other", x.stood(0, 2, 0), NOT);
        CHECKS.due("another one's is not free", x.stood(0, 2, 1), NOT);
        x.years(1);
        CHECKS.due("nor is a dead one's", x.stood(1, 2, 0), NOT);
        CHECKS.due("who is off the bench may be told, too", x.stood(0, 2, 9), 0);
        CHECKS.due("what he left is free", x.stood(1, 2, 0), 1);
        CHECKS.due("at that hour alone", x.of(1, 3), 1);
    }
}
