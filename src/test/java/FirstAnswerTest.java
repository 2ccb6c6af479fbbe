/** "Answers below 0, of several the first that a call names": calls that could be refused for two reasons or more. */
final class FirstAnswerTest {
    private static final Checks CHECKS = new Checks();
    private static final int BAD = -1, NOT = -2, FULL = -3, NONE = -4, NULL = -11, CAST = -12, INDEX = -13, SIZE = -14;

    public static void main(String[] args) {
        CHECKS.sentence("Answers below 0, of several the first that a call names");
        man();
        stood();
        type();
        yearsAndDrift();
        nurse();
        seatsOfNobody();
        close();
        failed();
        film();
        sheet();
        item();
        copy();
        CHECKS.end();
    }

    /** Man 0 stood at the place of the next number at an hour. */
    private static BattleBench withTakenPlace(String text, int next) {
        BattleBench x = Checks.bench(text);
        x.stood(0, 1, next);
        return x;
    }

    private static void man() {
        BattleBench x = withTakenPlace("p9,p9", 2);
        CHECKS.due("man: NOT", x.man(0, 9), NOT);
        CHECKS.due("man: BAD of a kind ahead of NOT", x.man(5, 9), BAD);
        CHECKS.due("man: BAD of a life ahead of NOT", x.man(0, 61), BAD);
        x = withTakenPlace("p9,p9,p9,p9,p9,p9", 6);
        CHECKS.due("man: FULL ahead of NOT", x.man(0, 9), FULL);
        CHECKS.due("man: BAD of a kind ahead of FULL", x.man(-1, 9), BAD);
        CHECKS.due("man: BAD of a life ahead of FULL", x.man(0, 0), BAD);
    }

    private static void stood() {
        BattleBench x = Checks.bench("p9,p9");
        CHECKS.due("stood: NOT", x.stood(0, 0, 1), NOT);
        CHECKS.due("stood: BAD of a man ahead of NOT", x.stood(2, 0, 1), BAD);
        CHECKS.due("stood: BAD of a man below ahead of NOT", x.stood(-1, 0, 1), BAD);
        CHECKS.due("stood: BAD of an hour ahead of NOT", x.stood(0, 3, 1), BAD);
    }

    private static void type() {
        BattleBench x = new BattleBench();
        for (int n = 0; n < 70; n++) {
            x.type('p');
        }
        CHECKS.due("type: FULL", x.type('p'), FULL);
        CHECKS.due("type: BAD ahead of FULL", x.type(31), BAD);
        CHECKS.due("type: BAD above ahead of FULL", x.type(127), BAD);
    }

    private static void yearsAndDrift() {
        BattleBench x = new BattleBench();
        for (int n = 0; n < 249; n++) {
            x.years(40);
        }
        x.years(39);
        for (int n : Checks.outside(1, 40)) {
            CHECKS.due("years: BAD ahead of FULL, " + n, x.years(n), BAD);
            CHECKS.due("drift: BAD ahead of FULL, " + n, x.drift(n), BAD);
        }
        CHECKS.due("years: FULL", x.years(1), FULL);
        CHECKS.due("drift: FULL", x.drift(1), FULL);
    }

    private static void nurse() {
        BattleBench x = Checks.bench("p2,p9");
        x.years(1);
        CHECKS.due("nurse: NOT", x.nurse(0, 1), NOT);
        CHECKS.due("nurse: BAD ahead of NOT", x.nurse(0, 0), BAD);
        CHECKS.due("nurse: BAD above ahead of NOT", x.nurse(0, 61), BAD);
    }

    private static void seatsOfNobody() {
        BattleBench x = new BattleBench();
        CHECKS.due("seat: NONE", x.seat(0), NONE);
        CHECKS.due("seat: BAD", x.seat(-1), BAD);
        CHECKS.due("ease: NONE", x.ease(0), NONE);
        CHECKS.due("ease: BAD", x.ease(-2), BAD);
        CHECKS.due("left: NONE", x.left(30, 0), NONE);
        CHECKS.due("left: BAD of the years ahead of NONE", x.left(31, 0), BAD);
        CHECKS.due("left: BAD of the seat", x.left(30, -3), BAD);
    }

    private static void close() {
        BattleBench x = Checks.bench("p2,p9");
        x.years(1);
        CHECKS.due("close: NONE", x.close(0, 1), NONE);
        CHECKS.due("close: BAD of one ahead of NONE", x.close(0, 2), BAD);
        CHECKS.due("close: BAD of alike numbers ahead of NONE", x.close(0, 0), BAD);
    }

    /** Man 0 is off the bench; sheet 0 holds nothing, sheet 1 three shorts. */
    private static BattleBench withSheets() {
        BattleBench x = Checks.bench("p2,p9");
        x.years(1);
        x.sheet(1, 1, 3);
        return x;
    }

    private static void failed() {
        BattleBench x = withSheets();
        CHECKS.due("failed: NOT", x.failed(0, 1, 1, 0, 1, 0), NOT);
        CHECKS.due("failed: INDEX ahead of NOT", x.failed(0, 1, 1, 3, 1, 0), INDEX);
        CHECKS.due("failed: CAST ahead of NOT", x.failed(0, 1, 0, 0, 1, 0), CAST);
        CHECKS.due("failed: CAST ahead of INDEX", x.failed(1, 1, 0, 3, 1, 0), CAST);
        CHECKS.due("failed: NULL ahead of INDEX, NOT", x.failed(0, 0, 1, -1, 1, 0), NULL);
        CHECKS.due("failed: BAD of n ahead of NULL", x.failed(0, 0, 1, -1, 9, 0), BAD);
        CHECKS.due("failed: BAD of what ahead of NULL", x.failed(0, 0, 1, -1, 1, 3), BAD);
        CHECKS.due("failed: BAD of a man ahead of NULL", x.failed(2, 0, 1, -1, 1, 0), BAD);
        CHECKS.due("failed: BAD of a lane ahead of NULL", x.failed(0, 0, 4, -1, 1, 0), BAD);
        CHECKS.due("failed: BAD of a lane ahead of CAST", x.failed(1, 1, 4, 0, 1, 0), BAD);
        CHECKS.due("failed: BAD of n ahead of CAST", x.failed(1, 1, 0, 0, 0, 0), BAD);
        CHECKS.due("failed: BAD of n ahead of INDEX", x.failed(1, 1, 1, 3, 9, 0), BAD);
        CHECKS.due("failed: BAD of what ahead of NOT", x.failed(0, 1, 1, 0, 1, -1), BAD);
    }

    private static void film() {
        BattleBench x = withSheets();
        CHECKS.due("film: INDEX", x.film(0, 3, 1, 1, 1), INDEX);
        CHECKS.due("film: CAST ahead of INDEX", x.film(0, 3, 1, 2, 1), CAST);
        CHECKS.due("film: NULL ahead of INDEX", x.film(0, 3, 0, 2, -1), NULL);
        CHECKS.due("film: BAD of n ahead of NULL", x.film(0, 25, 0, 2, -1), BAD);
        CHECKS.due("film: BAD of a man ahead of NULL", x.film(2, 1, 0, 2, -1), BAD);
        CHECKS.due("film: BAD of a lane ahead of NULL", x.film(0, 1, 0, 4, -1), BAD);
        CHECKS.due("film: BAD of a lane ahead of CAST", x.film(0, 1, 1, -1, 0), BAD);
        CHECKS.due("film: BAD of n ahead of CAST", x.film(0, 0, 1, 0, 0), BAD);
        CHECKS.due("film: BAD of n ahead of INDEX", x.film(0, 25, 1, 1, 0), BAD);
    }

    private static void sheet() {
        BattleBench x = withSheets();
        CHECKS.due("sheet: SIZE", x.sheet(0, 0, -1), SIZE);
        CHECKS.due("sheet: BAD of a sheet ahead of SIZE", x.sheet(4, 0, -1), BAD);
        CHECKS.due("sheet: BAD of a lane ahead of SIZE", x.sheet(0, 4, -1), BAD);
    }

    private static void item() {
        BattleBench x = withSheets();
        CHECKS.due("item: INDEX", x.item(1, 1, 3, 0), INDEX);
        CHECKS.due("item: CAST ahead of INDEX", x.item(1, 2, 3, 0), CAST);
        CHECKS.due("item: NULL ahead of INDEX", x.item(0, 2, -1, 0), NULL);
        CHECKS.due("item: BAD of a lane ahead of NULL", x.item(0, 4, 0, 0), BAD);
        CHECKS.due("item: BAD of a lane ahead of CAST, INDEX", x.item(1, 4, 3, 0), BAD);
        CHECKS.due("item: BAD of a sheet ahead of all", x.item(4, 0, -1, 0), BAD);
    }

    private static void copy() {
        BattleBench x = withSheets();
        x.sheet(2, 2, 3);
        CHECKS.due("copy: INDEX", x.copy(1, 0, 1, 0, 4), INDEX);
        CHECKS.due("copy: CAST ahead of INDEX", x.copy(1, 0, 2, 0, 4), CAST);
        CHECKS.due("copy: CAST ahead of INDEX of n below 0", x.copy(1, 0, 2, 0, -1), CAST);
        CHECKS.due("copy: NULL of the first ahead of INDEX", x.copy(0, -1, 1, 0, 1), NULL);
        CHECKS.due("copy: NULL of the other ahead of INDEX", x.copy(1, -1, 0, 0, 1), NULL);
        CHECKS.due("copy: NULL of the other ahead of unlike lanes", x.copy(2, 0, 0, 0, 1), NULL);
        CHECKS.due("copy: NULL of both", x.copy(0, 0, 3, 0, -1), NULL);
        CHECKS.due("copy: BAD of the other ahead of NULL", x.copy(0, 0, 4, 0, 1), BAD);
        CHECKS.due("copy: BAD of the first ahead of NULL", x.copy(-1, 0, 0, 0, 1), BAD);
    }
}
