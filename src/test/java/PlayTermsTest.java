import java.util.NoSuchElementException;

/** Terms: the play. */
public final class PlayTermsTest {
    public static void main(String[] args) {
        Checks.sentence("The player behind declarer leads to the first trick.", PlayTermsTest::firstLeader);
        Checks.sentence("To each trick the four players play a card each, in order", PlayTermsTest::fourCards);
        Checks.sentence("who has a card of the suit that was led must play one", PlayTermsTest::mustFollow);
        Checks.sentence("(who has none of the suit that was led may play any card)", PlayTermsTest::needNotFollow);
        Checks.sentence("The trick is won by the highest card of the strain's suit in it, if there is one",
            PlayTermsTest::wonByTrumps);
        Checks.sentence("otherwise by the highest of the suit that was led", PlayTermsTest::wonWithoutTrumps);
        Checks.sentence("its player leads to the next one", PlayTermsTest::nextLeader);
        Checks.sentence("(Dummy's cards are played in dummy's turn, like those of others.)", PlayTermsTest::dummy);
        Checks.sentence("After five tricks the board is over.", PlayTermsTest::fiveTricks);
        Checks.end("PlayTermsTest");
    }

    private static void firstLeader() {
        for (int declarer = 0; declarer < 4; declarer++) {
            ShortBridge x = Boards.playing(Boards.WHOLE_SUITS, declarer, 3);
            Checks.due("who leads against " + declarer, x.turn(), (declarer + 1) % 4);
            // The last bid is the partner's, so that the player behind its bidder does not lead.
            ShortBridge y = Boards.auction(declarer, 3, 0, 8, 0, 0, 0);
            Checks.due("who leads against the first to bid the strain", y.turn(), (declarer + 1) % 4);
        }
    }

    private static void fourCards() {
        ShortBridge x = Boards.playing(Boards.WHOLE_SUITS, 1, 7);
        int[] players = {2, 3, 0, 1};
        for (int i = 0; i < 16; i++) {
            Checks.due("tricks(0) behind " + i + " cards", x.tricks(0), i / 4);
            Checks.due("turn() behind " + i + " cards", x.turn(), players[i % 4]);
            x.play(5 * players[i % 4] + i / 4);
        }
    }

    private static void mustFollow() {
        // Player 2 has one card of the suit, and then, as the second trick begins, none.
        ShortBridge x = Boards.playing(Boards.ROUND, 0, 6, 1);
        for (int c : new int[] {6, 10, 14, 18}) {
            Checks.refused("card " + c + " on 1", x, UnsupportedOperationException.class, () -> x.play(c));
        }
        Checks.due("the one card of the suit", Checks.answer(() -> x.play(2)), "nothing");
        // With two of them either may be played.
        Checks.plays(x, 3);
        for (int c : new int[] {8, 12, 16}) {
            Checks.refused("card " + c + " on 1", x, UnsupportedOperationException.class, () -> x.play(c));
        }
        for (int c : new int[] {0, 4}) {
            Checks.due("card " + c + " on 1", Checks.answer(() -> x.play(c)), "nothing");
            x.back();
        }
        // The suit that counts is the first card's, not that of a card put to it.
        ShortBridge y = Boards.playing(Boards.fill("13...23............."), 0, 3, 0, 5);
        Checks.refused("card 6 on 0 and 5", y, UnsupportedOperationException.class, () -> y.play(6));
        Checks.due("card 1 on 0 and 5", Checks.answer(() -> y.play(1)), "nothing");
    }

    private static void needNotFollow() {
        // In the second trick player 0 leads its last card of suit 0, which nobody else has any more.
        ShortBridge x = Boards.playing(Boards.ROUND, 0, 6, 1, 2, 3, 4, 0);
        for (int c : new int[] {5, 9, 13, 17}) {
            Checks.due("card " + c + " on 0", Checks.answer(() -> x.play(c)), "nothing");
            x.back();
        }
        // Who leads may play any card too.
        ShortBridge y = Boards.playing(Boards.ROUND, 0, 6);
        for (int c : new int[] {1, 5, 9, 13, 17}) {
            Checks.due("card " + c + " is led", Checks.answer(() -> y.play(c)), "nothing");
            y.back();
        }
    }

    private static void wonByTrumps() {
        // The one trump, be it the lowest, in each place.
        winnerDue(6, 1, 17, 10, 11);
        winnerDue(6, 2, 9, 18, 11);
        winnerDue(6, 3, 9, 10, 15);
        winnerDue(4, 1, 5, 18, 19);
        winnerDue(4, 2, 17, 6, 19);
        winnerDue(5, 2, 17, 10, 19);
        // The highest of several.
        winnerDue(6, 3, 17, 18, 19);
        winnerDue(6, 2, 17, 18, 15);
        winnerDue(4, 1, 9, 6, 7);
        winnerDue(5, 2, 13, 14, 11);
        // Trumps are led.
        winnerDue(3, 0, 17, 18, 19);
        ShortBridge x = Boards.playing(Boards.ROUND, 0, 6, 17, 18, 15, 16);
        Checks.due("who wins 17 18 15 16", x.turn(), 2);
    }

    private static void wonWithoutTrumps() {
        // The others have none of the suit, and their high cards win nothing.
        winnerDue(7, 0, 17, 18, 19);
        winnerDue(6, 0, 5, 10, 7);
        winnerDue(5, 0, 17, 18, 19);
        ShortBridge x = Boards.playing(Boards.ROUND, 0, 7, 1, 2, 3, 0);
        Checks.due("who wins 1 2 3 0", x.turn(), 3);
        ShortBridge y = Boards.playing(Boards.ROUND, 0, 7, 1, 2, 3, 4);
        Checks.due("who wins 1 2 3 4", y.turn(), 0);
        ShortBridge z = Boards.playing(Boards.ROUND, 0, 7, 9, 6, 7, 8);
        Checks.due("who wins 9 6 7 8", z.turn(), 1);
    }

    /** Player 0 leads card 0, alone in its suit, to the second trick; three others are put to it. */
    private static void winnerDue(int bid, int winner, int... cards) {
        ShortBridge x = Boards.playing(Boards.ROUND, 0, bid, 1, 2, 3, 4, 0);
        Checks.plays(x, cards);
        String what = "0 and " + java.util.Arrays.toString(cards) + " with bid " + bid;
        Checks.due("who wins " + what, x.turn(), winner);
        Checks.due("tricks(1) with " + what, x.tricks(1), winner % 2);
        Checks.due("tricks(0) with " + what, x.tricks(0), 2 - winner % 2);
    }

    private static void nextLeader() {
        ShortBridge x = Boards.playing(Boards.ROUND, 0, 7, 9, 6, 7, 8);
        Checks.due("who leads to trick 2", x.turn(), 1);
        Checks.plays(x, 5, 2, 3, 4);
        Checks.due("who leads to trick 3", x.turn(), 1);
        Checks.plays(x, 13, 14, 11, 12);
        Checks.due("who leads to trick 4", x.turn(), 2);
        Checks.plays(x, 10, 15, 0, 1);
        Checks.due("who leads to trick 5", x.turn(), 2);
        Checks.plays(x, 18);
        Checks.due("who is behind 2", x.turn(), 3);
    }

    private static void dummy() {
        ShortBridge x = Boards.playing(Boards.WHOLE_SUITS, 0, 7, 5);
        Checks.due("turn() of dummy", x.turn(), 2);
        Checks.refused("declarer's card in dummy's turn", x, NoSuchElementException.class, () -> x.play(0));
        Checks.due("dummy's card", Checks.answer(() -> x.play(10)), "nothing");
        x.play(15);
        Checks.due("turn() of declarer", x.turn(), 0);
        Checks.refused("dummy's card in declarer's turn", x, NoSuchElementException.class, () -> x.play(11));
    }

    private static void fiveTricks() {
        ShortBridge x = Boards.playing(Boards.ROUND, 0, 7, 9, 6, 7, 8, 5, 2, 3, 4, 13, 14, 11, 12, 10, 15, 0, 1);
        Checks.due("phase() behind four tricks", x.phase(), 2);
        Checks.plays(x, 18, 19, 16);
        Checks.due("phase() before the last card", x.phase(), 2);
        Checks.due("tricks in all before the last card", x.tricks(0) + x.tricks(1), 4);
        x.play(17);
        Checks.due("phase() behind the last card", x.phase(), 3);
        Checks.due("tricks(0)", x.tricks(0), 2);
        Checks.due("tricks(1)", x.tricks(1), 3);
        Checks.due("turn()", x.turn(), -1);
    }
}
