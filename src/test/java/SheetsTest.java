/** Promises 28 to 33: failed, film, sheet, drop, item, copy. What stands in a sheet is seen by failed. */
final class SheetsTest {
    private static final Checks CHECKS = new Checks();

    public static void main(String[] args) {
        sheets();
        items();
        copies();
        films();
        failedRefused();
        failedKinds();
        failedLives();
        CHECKS.end();
    }

    /** Whether an item is the number: a plain man of the number and 2 more fails so (for 0 .. 58). */
    private static void holds(String call, BattleBench x, int sheet, int lane, int i, int want) {
        CHECKS.due(call, x.failed(0, sheet, lane, i, 1, 2), want == 0 ? 1 : want + 2);
    }

    private static void sheets() {
        BattleBench x = Checks.bench("p60");
        CHECKS.due("sheet below", x.sheet(-1, 0, 1), -1);
        CHECKS.due("sheet above", x.sheet(4, 0, 1), -1);
        CHECKS.due("lane below", x.sheet(0, -1, 1), -1);
        CHECKS.due("lane above", x.sheet(0, 4, 1), -1);
        CHECKS.due("items above", x.sheet(0, 0, 25), -1);
        CHECKS.due("items far above", x.sheet(0, 0, Integer.MAX_VALUE), -1);
        CHECKS.due("items below", x.sheet(0, 0, -1), -14);
        CHECKS.due("items far below", x.sheet(3, 3, Integer.MIN_VALUE), -14);
        CHECKS.due("bad ahead of size", x.sheet(0, 4, -1), -1);
        CHECKS.due("nor sheet", x.sheet(4, 0, -1), -1);
        CHECKS.due("nothing there yet", x.drop(0), -11);
        for (int s = 0; s < 4; s++) {
            CHECKS.due("a row", x.sheet(s, s, 24 - s), 24 - s);
        }
        CHECKS.due("refused", x.sheet(1, 1, -1), -14);
        CHECKS.due("drop below", x.drop(-1), -1);
        CHECKS.due("drop above", x.drop(4), -1);
        for (int s = 0; s < 4; s++) {
            CHECKS.due("dropped", x.drop(s), 24 - s);
            CHECKS.due("nothing", x.drop(s), -11);
        }
        CHECKS.due("an empty row", x.sheet(2, 0, 0), 0);
        CHECKS.due("has no items", x.item(2, 0, 0, 1), -13);
        CHECKS.due("but is there", x.drop(2), 0);
        x.sheet(0, 2, 2);
        x.item(0, 2, 1, 30);
        holds("30", x, 0, 2, 1, 30);
        x.sheet(0, 2, 2);
        holds("a new row has zeros", x, 0, 2, 1, 0);
        x.item(0, 2, 0, 30);
        x.item(0, 2, 1, 30);
        x.sheet(0, 0, 1);
        holds("zero in front", x, 0, 0, 0, 0);
        CHECKS.due("a shorter one", x.item(0, 0, 1, 1), -13);
        x.sheet(0, 2, 2);
        holds("zeros again", x, 0, 2, 1, 0);
    }

    private static void items() {
        BattleBench x = Checks.bench("p60");
        CHECKS.due("sheet below", x.item(-1, 0, 0, 1), -1);
        CHECKS.due("sheet above", x.item(4, 0, 0, 1), -1);
        CHECKS.due("lane below", x.item(0, -1, 0, 1), -1);
        CHECKS.due("lane above", x.item(0, 4, 0, 1), -1);
        CHECKS.due("nothing there", x.item(0, 0, 99, 1), -11);
        x.sheet(0, 1, 3);
        CHECKS.due("another lane", x.item(0, 0, 99, 1), -12);
        CHECKS.due("index above", x.item(0, 1, 3, 1), -13);
        CHECKS.due("index below", x.item(0, 1, -1, 1), -13);
        CHECKS.due("far off", x.item(0, 1, Integer.MAX_VALUE, 1), -13);
        CHECKS.due("far below", x.item(0, 1, Integer.MIN_VALUE, 1), -13);
        CHECKS.due("the last", x.item(0, 1, 2, 7), 1);
        holds("is 7", x, 0, 1, 2, 7);
        holds("the one in front stays", x, 0, 1, 1, 0);

        long[] more = {256, 65536, 4294967296L};
        for (int lane = 0; lane < 4; lane++) {
            x.sheet(lane, lane, 1);
            for (int bits = 0; bits < 3; bits++) {
                CHECKS.due("item", x.item(lane, lane, 0, 7 * more[bits] + 20), 1);
                CHECKS.due("lowest bits of lane " + lane, x.failed(0, lane, lane, 0, 1, 2), lane <= bits ? 22 : -4);
            }
            x.item(lane, lane, 0, more[0] / 2 + 20);
            CHECKS.due("the sign counts", x.failed(0, lane, lane, 0, 1, 2), -4);
        }
    }

    private static void copies() {
        BattleBench x = Checks.bench("p60");
        CHECKS.due("from below", x.copy(-1, 0, 0, 0, 0), -1);
        CHECKS.due("from above", x.copy(4, 0, 0, 0, 0), -1);
        CHECKS.due("to below", x.copy(0, 0, -1, 0, 0), -1);
        CHECKS.due("to above", x.copy(0, 0, 4, 0, 0), -1);
        CHECKS.due("nothing in both", x.copy(0, 0, 1, 0, 0), -11);
        x.sheet(0, 2, 5);
        CHECKS.due("nothing in one", x.copy(0, 0, 1, 0, 9), -11);
        CHECKS.due("nothing in the other", x.copy(1, 0, 0, 0, 9), -11);
        x.sheet(1, 3, 5);
        CHECKS.due("unlike lanes", x.copy(0, 0, 1, 0, 9), -12);
        CHECKS.due("also of no items", x.copy(0, 0, 1, 0, 0), -12);
        x.sheet(1, 2, 4);
        CHECKS.due("too many from", x.copy(0, 2, 1, 0, 4), -13);
        CHECKS.due("too many to", x.copy(0, 0, 1, 1, 4), -13);
        CHECKS.due("from below 0", x.copy(0, -1, 1, 0, 1), -13);
        CHECKS.due("to below 0", x.copy(0, 0, 1, -1, 1), -13);
        CHECKS.due("how many below 0", x.copy(0, 0, 1, 0, -1), -13);
        CHECKS.due("far off", x.copy(0, Integer.MAX_VALUE, 1, 0, Integer.MAX_VALUE), -13);
        CHECKS.due("far below", x.copy(0, 0, 1, Integer.MIN_VALUE, Integer.MIN_VALUE), -13);
        CHECKS.due("none at the end", x.copy(0, 5, 1, 4, 0), 0);
        CHECKS.due("none behind the end", x.copy(0, 6, 1, 4, 0), -13);
        CHECKS.due("nor there", x.copy(0, 5, 1, 5, 0), -13);
        for (int i = 0; i < 5; i++) {
            x.item(0, 2, i, 10 + i);
        }
        CHECKS.due("three", x.copy(0, 1, 1, 1, 3), 3);
        for (int i = 1; i < 4; i++) {
            holds("copied " + i, x, 1, 2, i, 10 + i);
        }
        holds("in front", x, 1, 2, 0, 0);
        CHECKS.due("upward in the same", x.copy(0, 0, 0, 1, 4), 4);
        for (int i = 0; i < 5; i++) {
            holds("upward " + i, x, 0, 2, i, i == 0 ? 10 : 9 + i);
        }
        CHECKS.due("downward in the same", x.copy(0, 2, 0, 0, 3), 3);
        int[] want = {11, 12, 13, 12, 13};
        for (int i = 0; i < 5; i++) {
            holds("downward " + i, x, 0, 2, i, want[i]);
        }
    }

    private static void films() {
        BattleBench x = Checks.bench("p60,p2");
        CHECKS.due("no such man", x.film(2, 1, 0, 0, 0), -1);
        CHECKS.due("man below", x.film(-1, 1, 0, 0, 0), -1);
        CHECKS.due("no years", x.film(0, 0, 0, 0, 0), -1);
        CHECKS.due("too many", x.film(0, 25, 0, 0, 0), -1);
        CHECKS.due("sheet below", x.film(0, 1, -1, 0, 0), -1);
        CHECKS.due("sheet above", x.film(0, 1, 4, 0, 0), -1);
        CHECKS.due("lane below", x.film(0, 1, 0, -1, 0), -1);
        CHECKS.due("lane above", x.film(0, 1, 0, 4, 0), -1);
        CHECKS.due("nothing there", x.film(0, 1, 0, 0, 99), -11);
        x.sheet(0, 2, 24);
        CHECKS.due("another lane", x.film(0, 1, 0, 0, 99), -12);
        CHECKS.due("index below", x.film(0, 1, 0, 2, -1), -13);
        CHECKS.due("index above", x.film(0, 1, 0, 2, 24), -13);
        CHECKS.due("one too many", x.film(0, 24, 0, 2, 1), -13);
        CHECKS.due("far off", x.film(0, 24, 0, 2, Integer.MAX_VALUE), -13);
        holds("what is refused writes nothing", x, 0, 2, 1, 0);
        CHECKS.due("24 years", x.film(0, 24, 0, 2, 0), 24);
        for (int i = 0; i < 24; i++) {
            holds("film " + i, x, 0, 2, i, 58 - 2 * i);
        }
        CHECKS.due("from 3 on", x.film(0, 2, 0, 2, 3), 2);
        holds("in front", x, 0, 2, 2, 54);
        holds("first", x, 0, 2, 3, 58);
        holds("second", x, 0, 2, 4, 56);
        holds("behind", x, 0, 2, 5, 48);
        for (int lane = 0; lane < 4; lane++) {
            x.sheet(1, lane, 4);
            CHECKS.due("lane " + lane, x.film(0, 4, 1, lane, 0), 4);
            holds("lane " + lane, x, 1, lane, 3, 52);
        }
        x.years(1);
        CHECKS.due("the dead, too", x.film(1, 3, 0, 2, 0), 3);
        holds("have no life", x, 0, 2, 0, 0);
    }

    private static void failedRefused() {
        BattleBench x = Checks.bench("p60,p2");
        CHECKS.due("no such man", x.failed(2, 0, 0, 0, 1, 0), -1);
        CHECKS.due("man below", x.failed(-1, 0, 0, 0, 1, 0), -1);
        CHECKS.due("sheet below", x.failed(0, -1, 0, 0, 1, 0), -1);
        CHECKS.due("sheet above", x.failed(0, 4, 0, 0, 1, 0), -1);
        CHECKS.due("lane below", x.failed(0, 0, -1, 0, 1, 0), -1);
        CHECKS.due("lane above", x.failed(0, 0, 4, 0, 1, 0), -1);
        CHECKS.due("no years", x.failed(0, 0, 0, 0, 0, 0), -1);
        CHECKS.due("too many", x.failed(0, 0, 0, 0, 9, 0), -1);
        CHECKS.due("what below", x.failed(0, 0, 0, 0, 1, -1), -1);
        CHECKS.due("what above", x.failed(0, 0, 0, 0, 1, 3), -1);
        x.years(1);
        CHECKS.due("nothing there", x.failed(1, 0, 0, 99, 1, 0), -11);
        x.sheet(0, 1, 8);
        CHECKS.due("another lane", x.failed(1, 0, 0, 99, 1, 0), -12);
        CHECKS.due("index above", x.failed(1, 0, 1, 1, 8, 0), -13);
        CHECKS.due("index below", x.failed(1, 0, 1, -1, 1, 0), -13);
        CHECKS.due("far off", x.failed(1, 0, 1, Integer.MAX_VALUE, 8, 0), -13);
        CHECKS.due("off the bench", x.failed(1, 0, 1, 0, 8, 0), -2);
        CHECKS.due("bad ahead of not", x.failed(1, 0, 1, 0, 8, 3), -1);
    }

    private static void row(BattleBench x, int... lives) {
        x.sheet(0, 0, lives.length + 1);
        for (int i = 0; i < lives.length; i++) {
            x.item(0, 0, i + 1, lives[i]);
        }
    }

    private static void failedKinds() {
        BattleBench x = Checks.bench("p9,p40,p60");
        row(x, 38);
        CHECKS.due("plain, hale, drummer, runner by two", x.failed(1, 0, 0, 1, 1, 0), 1 | 2 | 8 | 16);
        row(x, 38, 36);
        CHECKS.due("plain, runner", x.failed(1, 0, 0, 1, 2, 0), 1 | 16);
        row(x, 38, 38);
        CHECKS.due("hale, drummer", x.failed(1, 0, 0, 1, 2, 0), 2 | 8);
        row(x, 36, 32);
        CHECKS.due("hurt", x.failed(1, 0, 0, 1, 2, 0), 4);
        row(x, 37);
        CHECKS.due("none", x.failed(1, 0, 0, 1, 1, 0), 0);
        row(x, 38, 36, 34, 32, 30);
        CHECKS.due("while 0 is there", x.failed(1, 0, 0, 1, 5, 0), 1 | 16);
        row(x, 38, 36, 34, 32, 30, 28);
        CHECKS.due("then he is by one", x.failed(1, 0, 0, 1, 6, 0), 1);
        row(x, 38, 36, 34, 32, 30, 27);
        CHECKS.due("and fails by 3", x.failed(1, 0, 0, 1, 6, 0), 16);
        row(x, 38, 38, 36, 36, 34, 34);
        CHECKS.due("hale for years", x.failed(1, 0, 0, 1, 6, 0), 2);
        row(x, 38, 38, 36, 36, 34, 33);
        CHECKS.due("a drummer comes to the end", x.failed(1, 0, 0, 1, 6, 0), 8);
        CHECKS.due("his own kind stays", x.of(1, 0), 0);

        x = Checks.bench("r9,p2,p9");
        row(x, 0);
        CHECKS.due("all kinds by which he dies", x.failed(1, 0, 0, 1, 1, 0), 31);
        row(x, 0, 0, 0);
        CHECKS.due("and stays dead", x.failed(1, 0, 0, 1, 3, 0), 31);
    }

    private static void failedLives() {
        BattleBench x = Checks.bench("p9,u40,p60");
        row(x, 36, 32);
        CHECKS.due("one number", x.failed(1, 0, 0, 1, 2, 1), 1);
        CHECKS.due("is 40", x.failed(1, 0, 0, 1, 2, 2), 40);
        row(x, 0);
        CHECKS.due("1 to 4", x.failed(1, 0, 0, 1, 1, 1), 4);
        CHECKS.due("the least", x.failed(1, 0, 0, 1, 1, 2), 1);
        row(x, 1, 0);
        CHECKS.due("5", x.failed(1, 0, 0, 1, 2, 1), 1);
        CHECKS.due("is 5", x.failed(1, 0, 0, 1, 2, 2), 5);
        row(x, 56);
        CHECKS.due("60 at most", x.failed(1, 0, 0, 1, 1, 2), 60);
        CHECKS.due("that one", x.failed(1, 0, 0, 1, 1, 1), 1);
        row(x, 57);
        CHECKS.due("no more", x.failed(1, 0, 0, 1, 1, 2), -4);
        CHECKS.due("none such", x.failed(1, 0, 0, 1, 1, 1), 0);
        row(x, 30, 27);
        CHECKS.due("no hurt man fails so", x.failed(1, 0, 0, 1, 2, 1), 0);
        row(x, -1);
        CHECKS.due("below 0", x.failed(1, 0, 0, 1, 1, 1), 0);
        x.sheet(0, 3, 1);
        x.item(0, 3, 0, (1L << 32) + 36);
        CHECKS.due("a long is looked at whole", x.failed(1, 0, 3, 0, 1, 1), 0);
        CHECKS.due("his life stays", x.of(1, 1), 40);
    }
}
