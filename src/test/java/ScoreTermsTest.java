import java.util.Collections;
import java.util.Map;
import java.util.TreeMap;

/** Terms: the score, and points. */
public final class ScoreTermsTest {
    private static final int[] STEPS = {
        20, 50, 90, 130, 170, 220, 270, 320, 370, 430, 500, 600, 750, 900, 1100, 1300, 1500, 1750, 2000
    };

    /** Player 0 has 3 and the highest card of each suit. */
    private static final String TOP_CARDS = Boards.fill("...00....0....0....0");

    public static void main(String[] args) {
        Checks.sentence("NEEDED are L + 2 tricks", ScoreTermsTest::needed);
        Checks.sentence("WORTH of a trick: 20 for strains 0 and 1, 30 for 2, 3 and 4", ScoreTermsTest::worth);
        Checks.sentence("m = (L * worth, and 10 more for strain 4) * 2^x. The score is m", ScoreTermsTest::tricksBid);
        Checks.sentence("and 50 if m is below 100, else 300, 500 with v", ScoreTermsTest::belowAndFrom100);
        Checks.sentence("and 400, 600 with v, if L is 3", ScoreTermsTest::levelThree);
        Checks.sentence("and 50 * x", ScoreTermsTest::madeThoughDoubled);
        Checks.sentence("and for each trick above NEEDED the worth of a trick if x is 0, else 100 * x, 200 * x with v",
            ScoreTermsTest::tricksAbove);
        Checks.sentence("Otherwise, with d = NEEDED - t: x = 0: -50 * d, -100 * d with v.", ScoreTermsTest::failed);
        Checks.sentence("-x times the sum, for each of the d tricks in order, of 100 for the first, 200 for the second"
            + " and third, 300 for the others; with v 200 for the first, 300 for the others", ScoreTermsTest::failedAndDoubled);
        Checks.sentence("The score of side 0 is that, or the opposite of it, if declarer is of side 1",
            ScoreTermsTest::oppositeOfSide1);
        Checks.sentence("0 without a contract", ScoreTermsTest::withoutContract);
        Checks.sentence("how many of 20, 50, 90, [..] 2000 are not above the amount of a", ScoreTermsTest::everyStep);
        Checks.sentence("below 0 if a is", ScoreTermsTest::belowZero);
        Checks.end("ScoreTermsTest");
    }

    private static void needed() {
        for (int bid = 3; bid <= 17; bid++) {
            int needed = 3 + (bid - 3) / 5;
            for (int tricks = 0; tricks <= 5; tricks++) {
                boolean isMade = Boards.over(bid, 0, tricks, 0, 0).score() > 0;
                Checks.due("whether bid " + bid + " is made with " + tricks, isMade, tricks >= needed);
            }
        }
    }

    private static void worth() {
        due(3, 0, 3, 20 + 50, 20 + 50);
        due(4, 0, 3, 20 + 50, 20 + 50);
        due(5, 0, 3, 30 + 50, 30 + 50);
        due(6, 0, 3, 30 + 50, 30 + 50);
        due(7, 0, 3, 40 + 50, 40 + 50);
        due(3, 0, 4, 20 + 50 + 20, 20 + 50 + 20);
        due(4, 0, 4, 20 + 50 + 20, 20 + 50 + 20);
        due(5, 0, 4, 30 + 50 + 30, 30 + 50 + 30);
        due(6, 0, 4, 30 + 50 + 30, 30 + 50 + 30);
        due(7, 0, 4, 40 + 50 + 30, 40 + 50 + 30);
    }

    private static void tricksBid() {
        int[] once = {20, 20, 30, 30, 40, 40, 40, 60, 60, 70, 60, 60, 90, 90, 100};
        for (int bid = 3; bid <= 17; bid++) {
            int level = 1 + (bid - 3) / 5;
            for (int doubled = 0; doubled <= 2; doubled++) {
                int m = once[bid - 3] * (doubled == 0 ? 1 : doubled == 1 ? 2 : 4);
                int plain = m + (m < 100 ? 50 : 300) + (level == 3 ? 400 : 0) + 50 * doubled;
                int vulnerable = m + (m < 100 ? 50 : 500) + (level == 3 ? 600 : 0) + 50 * doubled;
                due(bid, doubled, level + 2, plain, vulnerable);
            }
        }
    }

    private static void belowAndFrom100() {
        // m is 80, 80, 90, 100, 120 and 120.
        due(3, 2, 3, 80 + 50 + 100, 80 + 50 + 100);
        due(8, 1, 4, 80 + 50 + 50, 80 + 50 + 50);
        due(16, 0, 5, 90 + 50 + 400, 90 + 50 + 600);
        due(17, 0, 5, 100 + 300 + 400, 100 + 500 + 600);
        due(5, 2, 3, 120 + 300 + 100, 120 + 500 + 100);
        due(10, 1, 4, 120 + 300 + 50, 120 + 500 + 50);
        // It is m that counts, not what comes for tricks above.
        due(6, 0, 5, 30 + 50 + 60, 30 + 50 + 60);
        due(12, 0, 5, 70 + 50 + 30, 70 + 50 + 30);
    }

    private static void levelThree() {
        due(12, 0, 4, 70 + 50, 70 + 50);
        due(13, 0, 5, 60 + 50 + 400, 60 + 50 + 600);
        due(14, 0, 5, 60 + 50 + 400, 60 + 50 + 600);
        due(15, 0, 5, 90 + 50 + 400, 90 + 50 + 600);
        due(17, 0, 5, 100 + 300 + 400, 100 + 500 + 600);
        due(17, 2, 5, 400 + 300 + 400 + 100, 400 + 500 + 600 + 100);
        // All five tricks alone are not enough.
        due(7, 0, 5, 40 + 50 + 60, 40 + 50 + 60);
        due(11, 0, 5, 60 + 50 + 30, 60 + 50 + 30);
    }

    private static void madeThoughDoubled() {
        due(3, 0, 3, 20 + 50, 20 + 50);
        due(3, 1, 3, 40 + 50 + 50, 40 + 50 + 50);
        due(3, 2, 3, 80 + 50 + 100, 80 + 50 + 100);
        due(13, 1, 5, 120 + 300 + 400 + 50, 120 + 500 + 600 + 50);
        due(13, 2, 5, 240 + 300 + 400 + 100, 240 + 500 + 600 + 100);
    }

    private static void tricksAbove() {
        for (int above = 0; above <= 2; above++) {
            due(4, 0, 3 + above, 70 + 20 * above, 70 + 20 * above);
            due(5, 0, 3 + above, 80 + 30 * above, 80 + 30 * above);
            due(7, 0, 3 + above, 90 + 30 * above, 90 + 30 * above);
            due(4, 1, 3 + above, 140 + 100 * above, 140 + 200 * above);
            due(4, 2, 3 + above, 230 + 200 * above, 230 + 400 * above);
        }
        due(9, 0, 5, 90 + 20, 90 + 20);
        due(9, 1, 5, 180 + 100, 180 + 200);
        due(9, 2, 5, 560 + 200, 760 + 400);
    }

    private static void failed() {
        for (int bid = 3; bid <= 17; bid++) {
            int needed = 3 + (bid - 3) / 5;
            for (int d = 1; d <= needed; d++) {
                due(bid, 0, needed - d, -50 * d, -100 * d);
            }
        }
    }

    private static void failedAndDoubled() {
        int[] plain = {100, 300, 500, 800, 1100};
        int[] vulnerable = {200, 500, 800, 1100, 1400};
        for (int bid = 3; bid <= 17; bid++) {
            int needed = 3 + (bid - 3) / 5;
            for (int d = 1; d <= needed; d++) {
                due(bid, 1, needed - d, -plain[d - 1], -vulnerable[d - 1]);
                due(bid, 2, needed - d, -2 * plain[d - 1], -2 * vulnerable[d - 1]);
            }
        }
    }

    /** The score of a contract of side 0 with so many tricks, not vulnerable and vulnerable. */
    private static void due(int bid, int doubled, int tricks, int plain, int vulnerable) {
        for (int who = 0; who < 4; who++) {
            String what = "score() with bid " + bid + " doubled " + doubled + " tricks " + tricks + " vulnerable " + who;
            int declarer = bid % 2 * 2;
            Checks.due(what, Boards.over(bid, doubled, tricks, declarer, who).score(), who % 2 == 0 ? plain : vulnerable);
        }
    }

    private static void oppositeOfSide1() {
        int[] signs = {1, -1, 1, -1};
        for (int declarer = 0; declarer < 4; declarer++) {
            for (int vulnerable = 0; vulnerable < 4; vulnerable++) {
                boolean isVulnerable = (vulnerable >> declarer % 2) % 2 == 1;
                int made = Boards.over(17, 0, 5, declarer, vulnerable).score();
                Checks.due("score() when " + declarer + " makes it", made, signs[declarer] * (isVulnerable ? 1200 : 800));
                int failed = Boards.over(17, 1, 3, declarer, vulnerable).score();
                Checks.due("score() when " + declarer + " fails", failed, signs[declarer] * (isVulnerable ? -500 : -300));
            }
        }
    }

    private static void withoutContract() {
        for (int vulnerable = 0; vulnerable < 4; vulnerable++) {
            ShortBridge x = new ShortBridge();
            Boards.playOut(x, 0, 17, 2, vulnerable);
            x.deal(1, 0, vulnerable);
            Checks.calls(x, 0, 0, 0, 0);
            Checks.due("score()", x.score(), 0);
        }
    }

    /** For each step a difference that is the step itself, and the ones 10 below and above. */
    private static void everyStep() {
        Map<Integer, Integer> byDifference = pointsByDifference();
        for (int k = 0; k < STEPS.length; k++) {
            Checks.due("points of 10 less than " + STEPS[k], byDifference.get(STEPS[k] - 10), k);
            Checks.due("points of " + STEPS[k], byDifference.get(STEPS[k]), k + 1);
            Checks.due("points of 10 more than " + STEPS[k], byDifference.get(STEPS[k] + 10), k + 1);
        }
        Checks.due("points of 0", byDifference.get(0), 0);
        int most = Collections.max(byDifference.keySet());
        Checks.due("whether the greatest difference is far above the last step", most > 3000, true);
        Checks.due("points of " + most, byDifference.get(most), 19);
    }

    private static void belowZero() {
        Map<Integer, Integer> byDifference = pointsByDifference();
        for (int difference : byDifference.keySet()) {
            int opposite = byDifference.get(-difference);
            Checks.due("points of " + difference + " and of its opposite", byDifference.get(difference) + opposite, 0);
            Checks.due("whether points of " + difference + " are below 0", opposite > 0, difference <= -20);
        }
    }

    /** What points() answers for every difference of two scores that come of the boards below. */
    private static Map<Integer, Integer> pointsByDifference() {
        Map<Integer, int[]> boards = boardsByScore();
        Map<Integer, Integer> points = new TreeMap<>();
        for (int a : boards.keySet()) {
            for (int b : boards.keySet()) {
                if (!points.containsKey(a - b)) {
                    ShortBridge x = new ShortBridge();
                    playOut(x, boards.get(a));
                    x.record();
                    playOut(x, boards.get(b));
                    x.record();
                    points.put(a - b, x.points(0, 1));
                }
            }
        }
        return points;
    }

    private static Map<Integer, int[]> boardsByScore() {
        Map<Integer, int[]> boards = new TreeMap<>();
        for (int k = 0; k < 4 * 15 * 3 * 4 * 2; k++) {
            int[] board = {k % 4, 3 + k / 4 % 15, k / 60 % 3, k / 180 % 4, k / 720};
            ShortBridge x = new ShortBridge();
            playOut(x, board);
            boards.putIfAbsent(x.score(), board);
        }
        return boards;
    }

    /** A board of declarer, bid, how often doubled, who is vulnerable, and which of two deals. */
    private static void playOut(ShortBridge x, int[] board) {
        x.deal(board[4] == 0 ? 0 : Checks.numberOf(TOP_CARDS), board[0], board[3]);
        Boards.bidAndDouble(x, board[1], board[2]);
        Boards.playAll(x);
    }
}
