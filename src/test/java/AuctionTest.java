/** Promises 5 phase, 6 turn, 8 call and 11 contract, in the auction. */
public final class AuctionTest {
    public static void main(String[] args) {
        turnsGoRound();
        bidsGoUp();
        doubles();
        redoubles();
        wrongCalls();
        endings();
        contracts();
        declarers();
        longestAuction();
        Checks.end("AuctionTest");
    }

    private static ShortBridge board(int dealer, int... calls) {
        ShortBridge x = new ShortBridge();
        x.deal(123456789, dealer, 0);
        Checks.calls(x, calls);
        return x;
    }

    private static void turnsGoRound() {
        for (int dealer = 0; dealer < 4; dealer++) {
            ShortBridge x = board(dealer);
            for (int i = 0; i < 15; i++) {
                Checks.due("turn of call " + i, x.turn(), (dealer + i) % 4);
                Checks.due("phase", x.phase(), 1);
                x.call(3 + i);
            }
        }
    }

    private static void bidsGoUp() {
        for (int bid = 3; bid <= 17; bid++) {
            ShortBridge x = board(0, bid, 0);
            for (int lower = 3; lower <= bid; lower++) {
                int c = lower;
                Checks.refused("bid " + c + " over " + bid, x, UnsupportedOperationException.class, () -> x.call(c));
            }
            for (int higher = bid + 1; higher <= 17; higher++) {
                ShortBridge y = board(0, bid, 1);
                y.call(higher);
                Checks.due("contract(0)", y.contract(0), higher);
            }
        }
    }

    private static void doubles() {
        forbidden(1);
        forbidden(1, 0);
        forbidden(1, 0, 0, 0);
        allowed(1, 3);
        forbidden(1, 3, 0);
        allowed(1, 3, 0, 0);
        forbidden(1, 3, 1);
        forbidden(1, 3, 1, 0);
        forbidden(1, 3, 1, 2);
        forbidden(1, 3, 1, 2, 0);
        allowed(1, 3, 1, 2, 4);
        forbidden(1, 3, 1, 2, 4, 0);
        allowed(1, 0, 0, 17, 0, 0);
    }

    private static void redoubles() {
        forbidden(2);
        forbidden(2, 3);
        forbidden(2, 3, 0);
        allowed(2, 3, 1);
        forbidden(2, 3, 1, 0);
        allowed(2, 3, 1, 0, 0);
        forbidden(2, 3, 1, 2);
        forbidden(2, 3, 1, 2, 0);
        forbidden(2, 3, 1, 4);
        forbidden(2, 3, 1, 4, 0);
    }

    private static void forbidden(int c, int... calls) {
        ShortBridge x = board(1, calls);
        Checks.refused("call " + c + " behind " + calls.length, x, UnsupportedOperationException.class, () -> x.call(c));
    }

    private static void allowed(int c, int... calls) {
        ShortBridge x = board(1, calls);
        Checks.due("call " + c + " behind " + calls.length, Checks.answer(() -> x.call(c)), "nothing");
        Checks.due("contract(1)", x.contract(1), c);
    }

    private static void wrongCalls() {
        ShortBridge x = board(0, 17);
        for (int c : new int[] {-1, 18, 19, 100, Integer.MIN_VALUE, Integer.MAX_VALUE}) {
            Checks.refused("call(" + c + ")", x, IllegalArgumentException.class, () -> x.call(c));
        }
        Checks.calls(x, 0, 0, 0);
        Checks.refused("call(0) in the play", x, IllegalStateException.class, () -> x.call(0));
        Checks.refused("call(-1) in the play", x, IllegalStateException.class, () -> x.call(-1));
        ShortBridge y = board(0, 0, 0, 0, 0);
        Checks.refused("call(3) when it is over", y, IllegalStateException.class, () -> y.call(3));
        Checks.refused("call(18) when it is over", y, IllegalStateException.class, () -> y.call(18));
    }

    private static void endings() {
        phaseDue(1, 0, 0, 0);
        phaseDue(3, 0, 0, 0, 0);
        phaseDue(1, 3, 0, 0);
        phaseDue(2, 3, 0, 0, 0);
        phaseDue(1, 0, 0, 0, 3);
        phaseDue(1, 0, 0, 0, 3, 0, 0);
        phaseDue(2, 0, 0, 0, 3, 0, 0, 0);
        phaseDue(1, 3, 0, 0, 1, 0, 0);
        phaseDue(2, 3, 0, 0, 1, 0, 0, 0);
        phaseDue(1, 3, 1, 2, 0, 0);
        phaseDue(2, 3, 1, 2, 0, 0, 0);
        ShortBridge x = board(2, 0, 0, 0, 0);
        Checks.due("turn() without a contract", x.turn(), -1);
        Checks.due("contract(0) without a contract", x.contract(0), -1);
        Checks.due("contract(1) without a contract", x.contract(1), -1);
        Checks.due("contract(2) without a contract", x.contract(2), -1);
        Checks.due("a hand when nobody bid", Checks.hand(x, 0).split(",").length, 5);
    }

    private static void phaseDue(int phase, int... calls) {
        Checks.due("phase behind " + calls.length + " calls", board(3, calls).phase(), phase);
    }

    private static void contracts() {
        ShortBridge x = board(0);
        contractDue(x, -1, -1, -1);
        x.call(0);
        contractDue(x, -1, -1, -1);
        x.call(5);
        contractDue(x, 5, 0, 1);
        x.call(1);
        contractDue(x, 5, 1, 1);
        x.call(2);
        contractDue(x, 5, 2, 1);
        x.call(0);
        contractDue(x, 5, 2, 1);
        x.call(6);
        contractDue(x, 6, 0, 1);
        Checks.calls(x, 0, 0, 1, 0, 0, 0);
        contractDue(x, 6, 1, 1);
        Checks.due("phase()", x.phase(), 2);
        Checks.due("turn()", x.turn(), 2);
    }

    private static void contractDue(ShortBridge x, int bid, int doubled, int declarer) {
        Checks.due("contract(0)", x.contract(0), bid);
        Checks.due("contract(1)", x.contract(1), doubled);
        Checks.due("contract(2)", x.contract(2), declarer);
        for (int what : new int[] {-1, 3, 4, Integer.MIN_VALUE, Integer.MAX_VALUE}) {
            Checks.due("contract(" + what + ")", x.contract(what), -1);
        }
    }

    private static void declarers() {
        declarerDue(0, 0, 3, 0, 0, 0);
        declarerDue(3, 0, 0, 0, 0, 3, 0, 0, 0);
        // The partner was the first to bid the strain.
        declarerDue(0, 0, 3, 0, 8, 0, 0, 0);
        // The partner bid another strain.
        declarerDue(2, 0, 3, 0, 9, 0, 0, 0);
        // The other side bid the strain before.
        declarerDue(1, 0, 3, 8, 0, 0, 0);
        declarerDue(3, 0, 3, 0, 0, 8, 0, 0, 0);
        // The side comes back to the strain at a later time.
        declarerDue(2, 2, 3, 4, 9, 0, 13, 0, 0, 0);
        declarerDue(0, 2, 7, 0, 8, 0, 9, 0, 13, 0, 0, 0);
        declarerDue(1, 1, 7, 0, 12, 0, 17, 0, 0, 0);
        // In the auction too, of what stands now.
        declarerDue(0, 0, 3, 0, 8);
        declarerDue(3, 0, 3, 0, 8, 9);
    }

    private static void declarerDue(int declarer, int dealer, int... calls) {
        ShortBridge x = board(dealer, calls);
        Checks.due("declarer behind " + calls.length + " calls", x.contract(2), declarer);
        if (x.phase() == 2) {
            Checks.due("the player behind declarer leads", x.turn(), (declarer + 1) % 4);
        }
    }

    private static void longestAuction() {
        ShortBridge x = board(0, 0, 0, 0);
        int made = 3;
        for (int bid = 3; bid <= 17; bid++) {
            Checks.calls(x, bid, 0, 0, 1, 0, 0, 2, 0, 0);
            made += 9;
            Checks.due("phase()", x.phase(), 1);
            Checks.due("turn()", x.turn(), made % 4);
            Checks.due("contract(0)", x.contract(0), bid);
            Checks.due("contract(1)", x.contract(1), 2);
        }
        x.call(0);
        Checks.due("phase()", x.phase(), 2);
        Checks.due("contract(0)", x.contract(0), 17);
        ShortBridge y = board(0, 0, 0, 0);
        for (int bid = 3; bid <= 17; bid++) {
            Checks.calls(y, bid, 0, 0, 1, 0, 0, 2, 0, 0);
        }
        for (int i = 0; i < made; i++) {
            Checks.due("back()", y.back(), true);
        }
        Checks.due("back() with no call left", y.back(), false);
        Checks.due("turn()", y.turn(), 0);
    }
}
