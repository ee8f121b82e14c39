import java.util.Random;

/** Promise 14, score. */
public final class ScoreTest {
    private static final Random RANDOM = new Random(6);

    public static void main(String[] args) {
        notOver();
        withoutContract();
        undoubled();
        doubled();
        redoubled();
        failed();
        Checks.end("ScoreTest");
    }

    private static void notOver() {
        ShortBridge x = new ShortBridge();
        x.deal(0, 0, 3);
        Checks.refused("score() in the auction", x, IllegalStateException.class, x::score);
        Checks.calls(x, 3, 0, 0, 0);
        for (int i = 0; i < 20; i++) {
            Checks.refused("score() in the play", x, IllegalStateException.class, x::score);
            Checks.playAny(x, 0);
        }
        Checks.due("score()", x.score(), 20 + 50 + 2 * 20);
        x.back();
        Checks.refused("score() behind back()", x, IllegalStateException.class, x::score);
    }

    private static void withoutContract() {
        for (int vulnerable = 0; vulnerable < 4; vulnerable++) {
            ShortBridge x = new ShortBridge();
            x.deal(1, 0, vulnerable);
            Checks.calls(x, 0, 0, 0, 0);
            Checks.due("score()", x.score(), 0);
        }
    }

    private static void undoubled() {
        made(3, 0, 3, 70, 70);
        made(3, 0, 4, 90, 90);
        made(3, 0, 5, 110, 110);
        made(4, 0, 5, 110, 110);
        made(5, 0, 3, 80, 80);
        made(6, 0, 5, 140, 140);
        made(7, 0, 3, 90, 90);
        made(7, 0, 5, 150, 150);
        made(8, 0, 4, 90, 90);
        made(9, 0, 5, 110, 110);
        made(10, 0, 4, 110, 110);
        made(11, 0, 5, 140, 140);
        made(12, 0, 4, 120, 120);
        made(12, 0, 5, 150, 150);
        made(13, 0, 5, 510, 710);
        made(14, 0, 5, 510, 710);
        made(15, 0, 5, 540, 740);
        made(16, 0, 5, 540, 740);
        made(17, 0, 5, 800, 1200);
    }

    private static void doubled() {
        made(3, 1, 3, 140, 140);
        made(3, 1, 5, 340, 540);
        made(6, 1, 4, 260, 360);
        made(7, 1, 3, 180, 180);
        made(8, 1, 4, 180, 180);
        made(9, 1, 5, 280, 380);
        made(10, 1, 4, 470, 670);
        made(12, 1, 4, 490, 690);
        made(12, 1, 5, 590, 890);
        made(13, 1, 5, 870, 1270);
        made(16, 1, 5, 930, 1330);
        made(17, 1, 5, 950, 1350);
    }

    private static void redoubled() {
        made(3, 2, 3, 230, 230);
        made(4, 2, 4, 430, 630);
        made(5, 2, 3, 520, 720);
        made(7, 2, 3, 560, 760);
        made(7, 2, 5, 960, 1560);
        made(8, 2, 4, 560, 760);
        made(11, 2, 5, 840, 1240);
        made(14, 2, 5, 1040, 1440);
        made(15, 2, 5, 1160, 1560);
        made(17, 2, 5, 1200, 1600);
    }

    private static void failed() {
        int[] plain = {100, 300, 500, 800, 1100};
        int[] vulnerable = {200, 500, 800, 1100, 1400};
        for (int bid = 3; bid <= 17; bid++) {
            int needed = 3 + (bid - 3) / 5;
            for (int d = 1; d <= needed; d++) {
                made(bid, 0, needed - d, -50 * d, -100 * d);
                made(bid, 1, needed - d, -plain[d - 1], -vulnerable[d - 1]);
                made(bid, 2, needed - d, -2 * plain[d - 1], -2 * vulnerable[d - 1]);
            }
        }
    }

    /** The score of a contract with so many tricks, by each declarer, not vulnerable and vulnerable. */
    private static void made(int bid, int doubled, int tricks, int plain, int vulnerable) {
        for (int declarer = 0; declarer < 4; declarer++) {
            int own = 1 << declarer % 2;
            int sign = declarer % 2 == 0 ? 1 : -1;
            scoreDue(bid, doubled, tricks, declarer, 0, sign * plain);
            scoreDue(bid, doubled, tricks, declarer, 3 - own, sign * plain);
            scoreDue(bid, doubled, tricks, declarer, own, sign * vulnerable);
            scoreDue(bid, doubled, tricks, declarer, 3, sign * vulnerable);
        }
    }

    private static void scoreDue(int bid, int doubled, int tricks, int declarer, int vulnerable, int score) {
        String what = "score with bid " + bid + " doubled " + doubled + " tricks " + tricks
            + " declarer " + declarer + " vulnerable " + vulnerable;
        for (int i = 0; i < 100000; i++) {
            ShortBridge x = new ShortBridge();
            x.shuffle(RANDOM.nextLong(), declarer, vulnerable);
            x.call(bid);
            for (int c = 1; c <= doubled; c++) {
                x.call(c);
            }
            Checks.calls(x, 0, 0, 0);
            if (playedOut(x, declarer % 2, tricks)) {
                Checks.due(what, x.score(), score);
                return;
            }
        }
        Checks.due(what, "never", "once");
    }

    /** Plays cards by chance; whether the side has so many tricks in the end. */
    private static boolean playedOut(ShortBridge x, int side, int tricks) {
        for (int i = 0; i < 20; i++) {
            Checks.playAny(x, RANDOM.nextInt(20));
            if (x.tricks(side) > tricks || 5 - x.tricks(1 - side) < tricks) {
                return false;
            }
        }
        return true;
    }
}
