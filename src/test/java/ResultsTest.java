import java.util.Map;
import java.util.TreeMap;

/** Promises 16 record, 17 points and 18 places. */
public final class ResultsTest {
    private static final int[] STEPS = {
        20, 50, 90, 130, 170, 220, 270, 320, 370, 430, 500, 600, 750, 900, 1100, 1300, 1500, 1750, 2000
    };

    public static void main(String[] args) {
        notOver();
        counted();
        atMostTwelve();
        pointsOfDifferences();
        everyCountOfPoints();
        noSuchResult();
        placesOfTheSameNumber();
        resultsStay();
        Checks.end("ResultsTest");
    }

    private static void notOver() {
        ShortBridge x = new ShortBridge();
        x.deal(0, 0, 0);
        Checks.refused("record() in the auction", x, IllegalStateException.class, x::record);
        Checks.calls(x, 3, 0, 0, 0);
        Checks.refused("record() in the play", x, IllegalStateException.class, x::record);
    }

    private static void counted() {
        ShortBridge x = new ShortBridge();
        passOut(x, 5);
        Checks.due("record()", x.record(), 1);
        Checks.due("record() again", x.record(), 2);
        Checks.due("back()", x.back(), true);
        Checks.due("a result behind back()", x.places(1), 1);
        x.call(0);
        Checks.due("record() once more", x.record(), 3);
        passOut(x, 6);
        Checks.due("record() of another board", x.record(), 4);
    }

    private static void atMostTwelve() {
        ShortBridge x = new ShortBridge();
        passOut(x, 5);
        for (int i = 1; i <= 12; i++) {
            Checks.due("record()", x.record(), i);
        }
        Checks.refused("record() with 12", x, UnsupportedOperationException.class, x::record);
        Checks.due("places(11)", x.places(11), 11);
        x.back();
        Checks.refused("record() with 12, not over", x, IllegalStateException.class, x::record);
    }

    private static void pointsOfDifferences() {
        ShortBridge x = new ShortBridge();
        playOut(x, 0, 3, 0, 0);
        x.record();
        playOut(x, 0, 15, 0, 0);
        x.record();
        playOut(x, 1, 16, 2, 3);
        x.record();
        passOut(x, 3);
        x.record();
        Checks.due("110 less 540", x.points(0, 1), -10);
        Checks.due("540 less 110", x.points(1, 0), 10);
        Checks.due("540 less -1560", x.points(1, 2), 19);
        Checks.due("110 less 0", x.points(0, 3), 3);
        Checks.due("-1560 less 0", x.points(2, 3), -17);
        Checks.due("540 less 540", x.points(1, 1), 0);
    }

    private static void everyCountOfPoints() {
        Map<Integer, int[]> boards = boardsByScore();
        TreeMap<Integer, Integer> seen = new TreeMap<>();
        int edges = 0;
        for (int a : boards.keySet()) {
            for (int b : boards.keySet()) {
                ShortBridge x = new ShortBridge();
                playOut(x, boards.get(a));
                x.record();
                playOut(x, boards.get(b));
                x.record();
                Checks.due("points of " + a + " less " + b, x.points(0, 1), points(a - b));
                seen.put(x.points(0, 1), a - b);
            }
        }
        Checks.due("how many counts of points came", seen.size(), 39);
        for (int step : STEPS) {
            boolean isMetBelow = hasDifference(boards, step - 10) || hasDifference(boards, step - 20);
            edges += hasDifference(boards, step) && isMetBelow ? 1 : 0;
        }
        Checks.due("how many steps were met with the amount itself and one just below", edges, STEPS.length);
    }

    /** A board for each score that deal 0 can have. */
    private static Map<Integer, int[]> boardsByScore() {
        Map<Integer, int[]> boards = new TreeMap<>();
        for (int k = 0; k < 2 * 15 * 3 * 2; k++) {
            int[] board = {k % 2, 3 + k / 2 % 15, k / 30 % 3, k / 90 * 3};
            ShortBridge x = new ShortBridge();
            playOut(x, board);
            boards.putIfAbsent(x.score(), board);
        }
        return boards;
    }

    private static boolean hasDifference(Map<Integer, int[]> boards, int difference) {
        for (int a : boards.keySet()) {
            if (boards.containsKey(a - difference)) {
                return true;
            }
        }
        return false;
    }

    private static int points(int difference) {
        if (difference < 0) {
            return -points(-difference);
        }
        int n = 0;
        while (n < STEPS.length && STEPS[n] <= difference) {
            n++;
        }
        return n;
    }

    private static void noSuchResult() {
        ShortBridge x = new ShortBridge();
        passOut(x, 5);
        x.record();
        x.record();
        for (int no : new int[] {-1, 2, 11, 12, Integer.MIN_VALUE, Integer.MAX_VALUE}) {
            Checks.refused("points(" + no + ", 0)", x, IndexOutOfBoundsException.class, () -> x.points(no, 0));
            Checks.refused("points(0, " + no + ")", x, IndexOutOfBoundsException.class, () -> x.points(0, no));
            Checks.refused("points of none", x, IndexOutOfBoundsException.class, () -> x.points(no, no));
            Checks.refused("places(" + no + ")", x, IndexOutOfBoundsException.class, () -> x.places(no));
        }
        Checks.due("points(1, 0)", x.points(1, 0), 0);
    }

    private static void placesOfTheSameNumber() {
        ShortBridge x = new ShortBridge();
        playOut(x, 0, 3, 0, 0);
        x.record();
        Checks.due("places(0) alone", x.places(0), 0);
        playOut(x, 0, 15, 0, 0);
        x.record();
        playOut(x, 2, 15, 0, 2);
        x.record();
        passOut(x, 0);
        x.record();
        passOut(x, 1);
        x.record();
        int[] due = {2, 5, 5, 0, 0};
        for (int i = 0; i < 5; i++) {
            Checks.due("places(" + i + ")", x.places(i), due[i]);
        }
    }

    private static void resultsStay() {
        ShortBridge x = new ShortBridge();
        playOut(x, 0, 15, 0, 0);
        x.record();
        passOut(x, 0);
        x.record();
        x.deal(4, 1, 1);
        Checks.due("points(0, 1) in an auction", x.points(0, 1), 11);
        x.shuffle(4, 1, 1);
        Checks.due("places(0) in an auction", x.places(0), 2);
        Checks.calls(x, 3, 0, 0, 0);
        Checks.playAny(x, 0);
        Checks.due("points(1, 0) in the play", x.points(1, 0), -11);
    }

    private static void passOut(ShortBridge x, long number) {
        x.deal(number, 0, 0);
        Checks.calls(x, 0, 0, 0, 0);
    }

    /**
     * Deal 0 with declarer, bid, how often doubled, and who is vulnerable. Each player has a whole
     * suit, so that who has the trumps takes all tricks, or, without trumps, the one who leads.
     */
    private static void playOut(ShortBridge x, int... board) {
        x.deal(0, board[0], board[3]);
        x.call(board[1]);
        for (int c = 1; c <= board[2]; c++) {
            x.call(c);
        }
        Checks.calls(x, 0, 0, 0);
        for (int i = 0; i < 20; i++) {
            Checks.playAny(x, 0);
        }
    }
}
