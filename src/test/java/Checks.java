import java.util.ArrayList;
import java.util.List;

/** What the tests share: answers that are due, and letters typed as a text. */
final class Checks {
    private final List<String> wrong = new ArrayList<>();
    private int made = 0;
    private String sentence = "";

    /** The words of the document that the checks behind it are about. */
    void sentence(String words) {
        sentence = "\"" + words + "\": ";
    }

    void due(String call, long got, long want) {
        made++;
        if (got != want) {
            wrong.add(sentence + call + " answered " + got + ", due is " + want);
        }
    }

    /** Numbers that lie outside of a bound: the nearest ones and the farthest. */
    static int[] outside(int least, int most) {
        return new int[] {least - 1, most + 1, Integer.MIN_VALUE, Integer.MAX_VALUE};
    }

    /** A new object whose bench is told by a text. */
    static BattleBench bench(String text) {
        BattleBench x = new BattleBench();
        int answer = read(x, text);
        if (answer < 0) {
            throw new IllegalStateException("the test's own text is at fault: " + text + " " + answer);
        }
        return x;
    }

    static int read(BattleBench x, String text) {
        type(x, text);
        return x.read();
    }

    static void type(BattleBench x, String text) {
        for (int i = 0; i < text.length(); i++) {
            x.type(text.charAt(i));
        }
    }

    /** The order on the bench as a number with a digit for each seat; 9 stands in front, as 0 can't. */
    static int seats(BattleBench x) {
        int row = 9;
        for (int k = 0; x.seat(k) >= 0; k++) {
            row = 10 * row + x.seat(k);
        }
        return row;
    }

    /** LIFE of all men as a number with two digits for each; 9 stands in front. */
    static long lives(BattleBench x) {
        long row = 9;
        for (int man = 0; man < x.count(0); man++) {
            row = 100 * row + x.of(man, 1);
        }
        return row;
    }

    void end() {
        for (String line : wrong) {
            System.out.println(line);
        }
        System.out.println(made + " answers looked at, " + wrong.size() + " not as due");
        if (made == 0 || !wrong.isEmpty()) {
            System.exit(1);
        }
    }
}
