import java.util.NoSuchElementException;
import java.util.Random;

/** Terms: cards, players, deals and their numbers, boards. */
public final class DealTermsTest {
    private static final long FIRST_CARD_TO_NEXT = 2933186256L;

    public static void main(String[] args) {
        Checks.sentence("CARDS are 0 .. 19", DealTermsTest::cards);
        Checks.sentence("the SUIT of card c is c / 5 (0 .. 3)", DealTermsTest::suits);
        Checks.sentence("its RANK c % 5, 4 the highest", DealTermsTest::ranks);
        Checks.sentence("PLAYERS are 0 .. 3", DealTermsTest::players);
        Checks.sentence("in this order around the table, 0 behind 3", DealTermsTest::aroundTheTable);
        Checks.sentence("SIDE 0 are players 0 and 2, side 1 the others", DealTermsTest::sides);
        Checks.sentence("In a DEAL each player gets 5 cards.", DealTermsTest::fiveCards);
        Checks.sentence("Its NUMBER: [..] it is how many come before", DealTermsTest::howManyComeBefore);
        Checks.sentence("in the order of the alphabet (the first place where two differ decides, the lesser player first)",
            DealTermsTest::orderOfTheAlphabet);
        Checks.sentence("from 0 to 11732745023", DealTermsTest::firstAndLastNumber);
        Checks.sentence("a DEALER (a player)", DealTermsTest::dealers);
        Checks.sentence("sides that are VULNERABLE (bit s for side s)", DealTermsTest::vulnerableSides);
        Checks.sentence("Its PHASE: 0 there is none, 1 the auction, 2 the play, 3 it is over.", DealTermsTest::phases);
        Checks.end("DealTermsTest");
    }

    private static void cards() {
        for (long number : new long[] {0, Boards.LAST_DEAL}) {
            Checks.due("cards that somebody has", Boards.ownersOf(number).length(), 20);
        }
        ShortBridge x = Boards.playing(Boards.WHOLE_SUITS, 3, 3);
        Checks.refused("play(-1)", x, NoSuchElementException.class, () -> x.play(-1));
        Checks.refused("play(20)", x, NoSuchElementException.class, () -> x.play(20));
        Checks.due("play(0)", Checks.answer(() -> x.play(0)), "nothing");
        ShortBridge y = Boards.playing(Boards.WHOLE_SUITS, 2, 3);
        Checks.due("play(19)", Checks.answer(() -> y.play(19)), "nothing");
    }

    /** Player 1 leads from a suit; player 2 has its highest card and the lowest of the next suit, or the other way. */
    private static void suits() {
        for (int s = 0; s < 3; s++) {
            int last = 5 * s + 4;
            ShortBridge up = Boards.playing(dealWith(last - 1, 1, last, 2, last + 1, 2), 0, 7, last - 1);
            Checks.refused("the next suit's lowest card", up, UnsupportedOperationException.class, () -> up.play(last + 1));
            Checks.due("the suit's highest card", Checks.answer(() -> up.play(last)), "nothing");
            ShortBridge down = Boards.playing(dealWith(last + 2, 1, last, 2, last + 1, 2), 0, 7, last + 2);
            Checks.refused("the highest card of the suit before", down, UnsupportedOperationException.class, () -> down.play(last));
            Checks.due("the suit's lowest card", Checks.answer(() -> down.play(last + 1)), "nothing");
        }
    }

    /** A deal out of cards with their players; the others get what is left in order. */
    private static String dealWith(int... cardsAndPlayers) {
        char[] pattern = "....................".toCharArray();
        for (int i = 0; i < cardsAndPlayers.length; i += 2) {
            pattern[cardsAndPlayers[i]] = (char) ('0' + cardsAndPlayers[i + 1]);
        }
        return Boards.fill(new String(pattern));
    }

    /** Player 1 leads one of four cards of a suit, player 2 has the fifth. */
    private static void ranks() {
        for (int c = 0; c < 20; c++) {
            int first = c / 5 * 5;
            char[] pattern = "....................".toCharArray();
            for (int k = first; k < first + 5; k++) {
                pattern[k] = k == c ? '2' : '1';
            }
            String owners = Boards.fill(new String(pattern));
            for (int led = first; led < first + 5; led++) {
                if (led != c) {
                    ShortBridge x = Boards.playing(owners, 0, 7, led, c);
                    Checks.playAny(x, 0);
                    Checks.playAny(x, 0);
                    Checks.due("who wins with " + c + " on " + led, x.turn(), c > led ? 2 : 1);
                }
            }
        }
    }

    private static void players() {
        ShortBridge x = new ShortBridge();
        for (int dealer = 0; dealer < 4; dealer++) {
            Checks.due("deal by " + dealer, x.deal(0, dealer, 0), true);
            Checks.due("has(" + dealer + ", " + 5 * dealer + ")", x.has(dealer, 5 * dealer), true);
        }
        Checks.due("deal by -1", x.deal(0, -1, 0), false);
        Checks.due("deal by 4", x.deal(0, 4, 0), false);
        for (int c = 0; c < 20; c++) {
            Checks.due("has(-1, " + c + ")", x.has(-1, c), false);
            Checks.due("has(4, " + c + ")", x.has(4, c), false);
        }
    }

    private static void aroundTheTable() {
        ShortBridge x = Boards.auction(2, 3);
        for (int player : new int[] {3, 0, 1, 2}) {
            Checks.due("who calls", x.turn(), player);
            x.call(x.contract(0) + 1);
        }
        ShortBridge y = Boards.playing(Boards.WHOLE_SUITS, 1, 7);
        for (int player : new int[] {2, 3, 0, 1}) {
            Checks.due("who plays", y.turn(), player);
            y.play(5 * player);
        }
    }

    /** In deal 0 the tricks go to the one player who has the trumps. */
    private static void sides() {
        for (int player = 0; player < 4; player++) {
            ShortBridge x = Boards.playedOut(0, 3 + player);
            Checks.due("tricks(0) when " + player + " has the trumps", x.tricks(0), player == 0 || player == 2 ? 5 : 0);
            Checks.due("tricks(1) when " + player + " has the trumps", x.tricks(1), player == 1 || player == 3 ? 5 : 0);
        }
    }

    private static void fiveCards() {
        Random random = new Random(10);
        for (int i = 0; i < 200; i++) {
            long number = i < 2 ? i * Boards.LAST_DEAL : (long) (random.nextDouble() * Boards.LAST_DEAL);
            fiveCardsEach(Boards.ownersOf(number));
            ShortBridge x = new ShortBridge();
            x.shuffle(random.nextLong(), 0, 0);
            fiveCardsEach(Boards.owners(x));
        }
    }

    private static void fiveCardsEach(String owners) {
        char[] row = owners.toCharArray();
        java.util.Arrays.sort(row);
        Checks.due("the players in order", new String(row), Boards.WHOLE_SUITS);
    }

    private static void howManyComeBefore() {
        Random random = new Random(2);
        for (int i = 0; i < 500; i++) {
            long number = (long) (random.nextDouble() * Boards.LAST_DEAL);
            Checks.due("rows before deal " + number, Checks.numberOf(Boards.ownersOf(number)), number);
            Checks.due("the deal behind " + number, Boards.ownersOf(number + 1), next(Boards.ownersOf(number)));
        }
    }

    /** The row that follows in the order of the alphabet. */
    private static String next(String owners) {
        char[] row = owners.toCharArray();
        int i = row.length - 2;
        while (row[i] >= row[i + 1]) {
            i--;
        }
        int j = row.length - 1;
        while (row[j] <= row[i]) {
            j--;
        }
        char kept = row[i];
        row[i] = row[j];
        row[j] = kept;
        return new String(row, 0, i + 1) + reversed(new String(row, i + 1, row.length - i - 1));
    }

    private static String reversed(String row) {
        return new StringBuilder(row).reverse().toString();
    }

    /** For each card: the last row before another player gets it, and the first row behind. */
    private static void orderOfTheAlphabet() {
        Checks.due("the last deal with card 0 for 0", Boards.ownersOf(FIRST_CARD_TO_NEXT - 1), "03333322222111110000");
        Checks.due("the first deal with card 0 for 1", Boards.ownersOf(FIRST_CARD_TO_NEXT), "10000011112222233333");
        Checks.due("the first deal with card 0 for 2", Boards.ownersOf(2 * FIRST_CARD_TO_NEXT), "20000011111222233333");
        Checks.due("the last deal with card 0 for 2", Boards.ownersOf(3 * FIRST_CARD_TO_NEXT - 1), "23333322221111100000");
        Checks.due("the first deal with card 0 for 3", Boards.ownersOf(3 * FIRST_CARD_TO_NEXT), "30000011111222223333");
        for (int card = 0; card < 19; card++) {
            String kept = Boards.WHOLE_SUITS.substring(0, card + 1);
            String last = kept + reversed(Boards.WHOLE_SUITS.substring(card + 1));
            if (!last.equals(Boards.WHOLE_SUITS)) {
                long number = Checks.numberOf(last);
                Checks.due("the last deal with " + kept, Boards.ownersOf(number), last);
                Checks.due("the first deal behind them", Boards.ownersOf(number + 1), next(last));
            }
        }
    }

    private static void firstAndLastNumber() {
        ShortBridge x = new ShortBridge();
        Checks.due("deal(-1)", x.deal(-1, 0, 0), false);
        Checks.due("deal 0", Boards.ownersOf(0), "00000111112222233333");
        Checks.due("deal 1", Boards.ownersOf(1), "00000111112222323333");
        Checks.due("deal 5", Boards.ownersOf(5), "00000111112222333332");
        Checks.due("deal 6", Boards.ownersOf(6), "00000111112223223333");
        Checks.due("the last deal but one", Boards.ownersOf(11732745022L), "33333222221111010000");
        Checks.due("the last deal", Boards.ownersOf(11732745023L), "33333222221111100000");
        Checks.due("deal(11732745024)", x.deal(11732745024L, 0, 0), false);
    }

    private static void dealers() {
        for (int dealer = 0; dealer < 4; dealer++) {
            ShortBridge x = new ShortBridge();
            x.deal(5, dealer, 0);
            Checks.due("turn() behind deal()", x.turn(), dealer);
            x.shuffle(5, dealer, 0);
            Checks.due("turn() behind shuffle()", x.turn(), dealer);
        }
    }

    /** A contract with one trick too few: 50 less, or 100 less with its side vulnerable. */
    private static void vulnerableSides() {
        int[][] due = {{-50, 50, -50, 50}, {-100, 50, -100, 50}, {-50, 100, -50, 100}, {-100, 100, -100, 100}};
        for (int vulnerable = 0; vulnerable < 4; vulnerable++) {
            for (int declarer = 0; declarer < 4; declarer++) {
                ShortBridge x = Boards.over(3, 0, 2, declarer, vulnerable);
                Checks.due("score() of " + declarer + " with " + vulnerable, x.score(), due[vulnerable][declarer]);
            }
        }
    }

    private static void phases() {
        Checks.due("phase() of a new object", new ShortBridge().phase(), 0);
        Checks.due("phase() without a call", Boards.auction(0).phase(), 1);
        Checks.due("phase() without a card", Boards.playing(Boards.ROUND, 0, 3).phase(), 2);
        Checks.due("phase() without a contract", Boards.passedOut().phase(), 3);
        Checks.due("phase() behind all cards", Boards.playedOut(0, 3).phase(), 3);
    }
}
