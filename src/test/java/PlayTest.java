/** Promises 9 play, 12 tricks and 13 table, and 5 phase and 6 turn in the play. */
public final class PlayTest {
    // Player p has the cards c with c % 4 = p: 0 4 8 12 16, 1 5 9 13 17, 2 6 10 14 18, 3 7 11 15 19.
    private static final String ROUND = "01230123012301230123";

    public static void main(String[] args) {
        noPlay();
        wrongCards();
        oneTrick();
        trumps();
        wholeBoard();
        leadersOfContracts();
        tricksAndTableOfNothing();
        Checks.end("PlayTest");
    }

    /** The play of a bid by player 0, so that player 1 leads. */
    private static ShortBridge playing(int bid) {
        ShortBridge x = new ShortBridge();
        x.deal(Checks.numberOf(ROUND), 0, 0);
        Checks.calls(x, bid, 0, 0, 0);
        return x;
    }

    private static void noPlay() {
        ShortBridge x = new ShortBridge();
        x.deal(0, 0, 0);
        Checks.refused("play(0) in the auction", x, IllegalStateException.class, () -> x.play(0));
        Checks.refused("play(20) in the auction", x, IllegalStateException.class, () -> x.play(20));
        Checks.calls(x, 0, 0, 0, 0);
        Checks.refused("play(0) without a contract", x, IllegalStateException.class, () -> x.play(0));
        x.deal(0, 0, 0);
        Checks.calls(x, 3, 0, 0, 0);
        for (int i = 0; i < 20; i++) {
            Checks.playAny(x, 0);
        }
        Checks.refused("play(0) when it is over", x, IllegalStateException.class, () -> x.play(0));
        Checks.refused("play(-1) when it is over", x, IllegalStateException.class, () -> x.play(-1));
    }

    private static void wrongCards() {
        ShortBridge x = playing(7);
        int[] no = {-1, 20, 33, 37, 64, Integer.MIN_VALUE, Integer.MAX_VALUE};
        for (int c : no) {
            Checks.refused("play(" + c + ")", x, java.util.NoSuchElementException.class, () -> x.play(c));
        }
        Checks.refused("a card of another", x, java.util.NoSuchElementException.class, () -> x.play(2));
        x.play(1);
        Checks.refused("a card that was played", x, java.util.NoSuchElementException.class, () -> x.play(1));
        Checks.refused("a card not of the suit", x, UnsupportedOperationException.class, () -> x.play(6));
        Checks.refused("a card of another and not of the suit", x, java.util.NoSuchElementException.class, () -> x.play(5));
        Checks.refused("a card of the suit, of another", x, java.util.NoSuchElementException.class, () -> x.play(3));
        Checks.due("turn()", x.turn(), 2);
    }

    private static void oneTrick() {
        ShortBridge x = playing(7);
        stateDue(x, 1, 0, 0, -1, -1, -1);
        x.play(1);
        stateDue(x, 2, 0, 0, 1, -1, -1);
        x.play(2);
        stateDue(x, 3, 0, 0, 1, 2, -1);
        x.play(3);
        stateDue(x, 0, 0, 0, 1, 2, 3);
        x.play(4);
        stateDue(x, 0, 1, 0, -1, -1, -1);
        x.play(0);
        stateDue(x, 1, 1, 0, 0, -1, -1);
        // Nobody else has the suit: any card will do, and none of them wins.
        Checks.plays(x, 17, 18, 19);
        stateDue(x, 0, 2, 0, -1, -1, -1);
    }

    private static void stateDue(ShortBridge x, int turn, int side0, int side1, int first, int second, int third) {
        Checks.due("phase()", x.phase(), 2);
        Checks.due("turn()", x.turn(), turn);
        Checks.due("tricks(0)", x.tricks(0), side0);
        Checks.due("tricks(1)", x.tricks(1), side1);
        Checks.due("table(0)", x.table(0), first);
        Checks.due("table(1)", x.table(1), second);
        Checks.due("table(2)", x.table(2), third);
        Checks.due("table(3)", x.table(3), -1);
        Checks.due("table(4)", x.table(4), -1);
        Checks.due("table(-1)", x.table(-1), -1);
    }

    private static void trumps() {
        winnerDue(6, 3, 17, 18, 19);
        winnerDue(6, 2, 17, 18, 7);
        winnerDue(6, 1, 17, 10, 7);
        winnerDue(6, 0, 5, 10, 7);
        winnerDue(5, 2, 13, 14, 11);
        winnerDue(4, 1, 9, 6, 7);
        winnerDue(3, 0, 17, 18, 19);
        winnerDue(7, 0, 17, 18, 19);
    }

    /** Player 0 leads card 0, alone in its suit, to the second trick; three others are put to it. */
    private static void winnerDue(int bid, int winner, int... cards) {
        ShortBridge x = playing(bid);
        Checks.plays(x, 1, 2, 3, 4, 0);
        Checks.plays(x, cards);
        Checks.due("winner of the second trick with bid " + bid, x.turn(), winner);
        Checks.due("tricks(1)", x.tricks(1), winner % 2);
        Checks.due("tricks(0)", x.tricks(0), 2 - winner % 2);
    }

    private static void wholeBoard() {
        ShortBridge x = playing(7);
        Checks.plays(x, 9, 6, 7, 8);
        Checks.due("winner of trick 1", x.turn(), 1);
        Checks.plays(x, 5, 2, 3, 4);
        Checks.due("winner of trick 2", x.turn(), 1);
        Checks.plays(x, 13, 14, 11, 12);
        Checks.due("winner of trick 3", x.turn(), 2);
        Checks.plays(x, 10, 15, 0, 1);
        Checks.due("winner of trick 4", x.turn(), 2);
        Checks.plays(x, 18, 19, 16);
        Checks.due("phase() before the last card", x.phase(), 2);
        x.play(17);
        Checks.due("phase() behind the last card", x.phase(), 3);
        Checks.due("turn()", x.turn(), -1);
        Checks.due("tricks(0)", x.tricks(0), 2);
        Checks.due("tricks(1)", x.tricks(1), 3);
        Checks.due("table(0)", x.table(0), -1);
        Checks.due("contract(0)", x.contract(0), 7);
        Checks.due("contract(1)", x.contract(1), 0);
        Checks.due("contract(2)", x.contract(2), 0);
        for (int p = 0; p < 4; p++) {
            Checks.due("hand of " + p, Checks.hand(x, p), "");
        }
    }

    private static void leadersOfContracts() {
        for (int dealer = 0; dealer < 4; dealer++) {
            ShortBridge x = new ShortBridge();
            x.deal(0, dealer, 0);
            Checks.calls(x, 3, 0, 0, 0);
            Checks.due("who leads", x.turn(), (dealer + 1) % 4);
        }
    }

    private static void tricksAndTableOfNothing() {
        ShortBridge x = playing(7);
        for (int side : new int[] {-1, 2, 3, Integer.MIN_VALUE, Integer.MAX_VALUE}) {
            Checks.due("tricks(" + side + ")", x.tricks(side), -1);
        }
        x.play(1);
        for (int i : new int[] {-1, -4, 1, 4, 20, Integer.MIN_VALUE, Integer.MAX_VALUE}) {
            Checks.due("table(" + i + ")", x.table(i), -1);
        }
    }
}
