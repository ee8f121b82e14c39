import java.util.Random;

/** Terms: solved. */
public final class SolvedTermsTest {
    public static void main(String[] args) {
        Checks.sentence("SOLVED, in the play, is how many of all five tricks declarer's side will have",
            SolvedTermsTest::tricksOfAllFive);
        Checks.sentence("if from here on", SolvedTermsTest::fromHereOn);
        Checks.sentence("every player plays, knowing all cards", SolvedTermsTest::knowingAllCards);
        Checks.sentence("so that the own side gets as many as it can", SolvedTermsTest::asManyAsItCan);
        Checks.sentence("(cards that lie on the table)", SolvedTermsTest::cardsOnTheTable);
        Checks.sentence("(endings by chance, against a search without any cut)", SolvedTermsTest::againstThePlainSearch);
        Checks.end("SolvedTermsTest");
    }

    /** In deal 0 who has the trumps takes all tricks, or, without trumps, the leader: 0 and 5 are the bounds. */
    private static void tricksOfAllFive() {
        wholeSuitsDue(3, 0, 5);
        wholeSuitsDue(4, 0, 0);
        wholeSuitsDue(5, 0, 5);
        wholeSuitsDue(6, 0, 0);
        wholeSuitsDue(7, 0, 0);
        wholeSuitsDue(4, 1, 5);
        wholeSuitsDue(5, 1, 0);
        wholeSuitsDue(6, 3, 5);
        wholeSuitsDue(7, 3, 0);
    }

    private static void wholeSuitsDue(int bid, int declarer, int tricks) {
        ShortBridge x = Boards.playing(Boards.WHOLE_SUITS, declarer, bid);
        for (int i = 0; i < 20; i++) {
            if (i >= 4) {
                Checks.due("solve() of bid " + bid + " by " + declarer, x.solve(), tricks);
            }
            Checks.playAny(x, 0);
        }
    }

    /** Tricks that are lost or won count as they are; before the last card the answer is the end's. */
    private static void fromHereOn() {
        Random random = new Random(11);
        for (int i = 0; i < 100; i++) {
            ShortBridge x = new ShortBridge();
            x.shuffle(random.nextLong(), i % 4, 0);
            Checks.calls(x, 3 + i % 15, 0, 0, 0);
            for (int n = 0; n < 16; n++) {
                Checks.playAny(x, random.nextInt(20));
            }
            int side = x.contract(2) % 2;
            int before = x.tricks(side);
            int[] solved = new int[4];
            for (int n = 0; n < 4; n++) {
                solved[n] = x.solve();
                Checks.playAny(x, 0);
            }
            for (int n = 0; n < 4; n++) {
                Checks.due("solve() " + (4 - n) + " cards before the end", solved[n], x.tricks(side));
            }
            Checks.due("one trick at most in one", x.tricks(side) - before <= 1, true);
        }
    }

    /**
     * Without trumps, after three tricks for side 0, player 2 leads with 1 and 15, player 0 has 2
     * and 4, one opponent 0 and 3, the other one 13 and 18. If 3 lies before player 0, the lead of
     * 1 takes both tricks, otherwise one.
     */
    private static void knowingAllCards() {
        ShortBridge before = Boards.playing("32030003120311221312", 0, 7, 8, 9, 7, 5, 14, 11, 10, 12, 19, 17, 6, 16);
        Checks.due("solve() with 3 before 4", before.solve(), 5);
        before.play(15);
        Checks.due("solve() behind the wrong lead", before.solve(), 3);
        before.back();
        Checks.plays(before, 1, 3);
        Checks.due("solve() behind 3", before.solve(), 5);
        before.play(2);
        Checks.due("solve() behind the wrong card on 3", before.solve(), 4);
        ShortBridge behind = Boards.playing("12010001320133223132", 0, 7, 7, 9, 8, 5, 14, 12, 10, 11, 19, 16, 6, 17);
        Checks.due("solve() with 3 behind 4", behind.solve(), 4);
    }

    /** The best card of whoever is to play keeps the answer, and no card betters it for that side. */
    private static void asManyAsItCan() {
        Random random = new Random(8);
        for (int i = 0; i < 300; i++) {
            ShortBridge x = new ShortBridge();
            x.shuffle(random.nextLong(), random.nextInt(4), 0);
            Checks.calls(x, 3 + random.nextInt(15), 0, 0, 0);
            while (x.phase() == 2) {
                if (Boards.owners(x).length() <= 16) {
                    Checks.due("solve() by its followers", x.solve(), bestFollower(x));
                }
                Checks.playAny(x, random.nextInt(20));
            }
        }
    }

    private static int bestFollower(ShortBridge x) {
        boolean own = x.turn() % 2 == x.contract(2) % 2;
        int best = own ? -1 : 6;
        for (int c = 0; c < 20; c++) {
            int card = c;
            if (Checks.answer(() -> x.play(card)).equals("nothing")) {
                int n = x.phase() == 3 ? x.tricks(x.contract(2) % 2) : x.solve();
                best = own ? Math.max(best, n) : Math.min(best, n);
                x.back();
            }
        }
        return best;
    }

    /** Two cards of a hand are not alike while one that lies between them is on the table. */
    private static void cardsOnTheTable() {
        endingDue(11036201335L, 3, 0, 13, 10, 11, 9, 3);
        endingDue(1918417723L, 7, 2, 4, 1, 3, 0, 16);
        endingDue(5704128633L, 4, 2, 0, 12, 2, 3);
        endingDue(632494188L, 7, 5, 1, 4, 6, 0, 8, 7, 9, 5, 18);
        endingDue(10217858726L, 7, 2, 16, 15, 0, 18);
        endingDue(6759742053L, 7, 3, 4, 0, 8, 2);
        endingDue(3004460949L, 5, 3, 9, 6, 8, 5, 0, 3, 16);
        endingDue(1765828018L, 5, 4, 19, 17, 16, 18, 11);
    }

    private static void endingDue(long number, int bid, int tricks, int... cards) {
        ShortBridge x = new ShortBridge();
        Model m = new Model();
        x.deal(number, 0, 0);
        m.deal(number, 0, 0);
        for (int c : new int[] {bid, 0, 0, 0}) {
            x.call(c);
            m.call(c);
        }
        for (int c : cards) {
            x.play(c);
            m.play(c);
        }
        Checks.due("solve() of deal " + number + " with bid " + bid, x.solve(), tricks);
        Checks.due("the plain search in deal " + number + " with bid " + bid, m.solve(), tricks);
    }

    private static void againstThePlainSearch() {
        Random random = new Random(7);
        for (int i = 0; i < 600; i++) {
            ShortBridge x = new ShortBridge();
            Model m = new Model();
            long number = x.shuffle(random.nextLong(), i % 4, 0);
            m.deal(number, i % 4, 0);
            int bid = 3 + random.nextInt(15);
            for (int c : new int[] {bid, 0, 0, 0}) {
                x.call(c);
                m.call(c);
            }
            // Endings of four cards a hand are dear for the plain search, so there are fewer of them.
            int played = i < 100 ? 4 + random.nextInt(4) : 8 + random.nextInt(12);
            for (int n = 0; n < played; n++) {
                playBoth(x, m, random.nextInt(20));
            }
            String what = "solve() of deal " + number + " with bid " + bid + ", " + played + " cards played";
            Checks.due(what, x.solve(), m.solve());
        }
    }

    private static void playBoth(ShortBridge x, Model m, int from) {
        int player = x.turn();
        String before = Checks.hand(x, player);
        Checks.playAny(x, from);
        for (String c : before.split(",")) {
            if (!x.has(player, Integer.parseInt(c))) {
                m.play(Integer.parseInt(c));
            }
        }
    }
}
