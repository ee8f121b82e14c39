/** Terms: the auction. */
public final class AuctionTermsTest {
    public static void main(String[] args) {
        Checks.sentence("CALLS are 0 PASS, 1 DOUBLE, 2 REDOUBLE, and the BIDS 3 .. 17", AuctionTermsTest::kindsOfCalls);
        Checks.sentence("bid b has the LEVEL 1 + (b - 3) / 5", AuctionTermsTest::levels);
        Checks.sentence("and the STRAIN (b - 3) % 5, a suit, or 4 for none", AuctionTermsTest::strains);
        Checks.sentence("The dealer calls first, then one player after the other.", AuctionTermsTest::turnsGoRound);
        Checks.sentence("A bid is allowed when it is greater than every bid before", AuctionTermsTest::bidsGoUp);
        Checks.sentence("double, when the latest call that is no pass is a bid by the other side", AuctionTermsTest::doubles);
        Checks.sentence("redouble, when it is a double by the other side", AuctionTermsTest::redoubles);
        Checks.sentence("pass always", AuctionTermsTest::passes);
        Checks.sentence("The auction ends when three passes follow a call that is no pass", AuctionTermsTest::threePasses);
        Checks.sentence("or with four passes and nothing else; then the board is over, without a contract",
            AuctionTermsTest::fourPasses);
        Checks.sentence("The CONTRACT is the last bid", AuctionTermsTest::lastBid);
        Checks.sentence("DOUBLED 0, 1 or 2 times, as no double, or a double, or a redouble came after it",
            AuctionTermsTest::timesDoubled);
        Checks.sentence("the DECLARER is that player of the side that bid it who was the first of the side to bid its strain",
            AuctionTermsTest::declarers);
        Checks.sentence("The play begins.", AuctionTermsTest::playBegins);
        Checks.sentence("(the longest auction: three passes, then two passes behind each bid, double and redouble)",
            AuctionTermsTest::longestAuction);
        Checks.end("AuctionTermsTest");
    }

    private static void kindsOfCalls() {
        contractDue(Boards.auction(0, 0), -1, -1, -1);
        contractDue(Boards.auction(0, 3), 3, 0, 0);
        contractDue(Boards.auction(0, 17), 17, 0, 0);
        contractDue(Boards.auction(0, 17, 1), 17, 1, 0);
        contractDue(Boards.auction(0, 17, 1, 2), 17, 2, 0);
        ShortBridge x = Boards.auction(0, 3);
        Checks.refused("call(18)", x, IllegalArgumentException.class, () -> x.call(18));
        Checks.refused("call(-1)", x, IllegalArgumentException.class, () -> x.call(-1));
    }

    private static void contractDue(ShortBridge x, int bid, int doubled, int declarer) {
        Checks.due("contract(0)", x.contract(0), bid);
        Checks.due("contract(1)", x.contract(1), doubled);
        Checks.due("contract(2)", x.contract(2), declarer);
    }

    /** With so many tricks as a level asks for, a contract is made, and with one less it is not. */
    private static void levels() {
        int[][] bidsAndLevels = {{3, 1}, {7, 1}, {8, 2}, {12, 2}, {13, 3}, {17, 3}};
        for (int[] b : bidsAndLevels) {
            Checks.due("bid " + b[0] + " is made", Boards.over(b[0], 0, b[1] + 2, 0, 0).score() > 0, true);
            Checks.due("bid " + b[0] + " is not made", Boards.over(b[0], 0, b[1] + 1, 0, 0).score(), -50);
        }
    }

    /** In deal 0 player 1 takes all tricks by leading if nobody has trumps, otherwise who has them. */
    private static void strains() {
        for (int bid = 3; bid <= 17; bid++) {
            ShortBridge x = Boards.playing(Boards.WHOLE_SUITS, 0, bid, 5, 10, 15, 0);
            int[] winners = {0, 1, 2, 3, 1};
            Checks.due("who wins with bid " + bid, x.turn(), winners[(bid - 3) % 5]);
        }
    }

    private static void turnsGoRound() {
        for (int dealer = 0; dealer < 4; dealer++) {
            ShortBridge x = Boards.auction(dealer);
            for (int i = 0; i < 15; i++) {
                Checks.due("turn of call " + i, x.turn(), (dealer + i) % 4);
                x.call(3 + i);
            }
        }
    }

    private static void bidsGoUp() {
        for (int bid = 3; bid <= 17; bid++) {
            allowed(bid);
            for (int c = 3; c <= 17; c++) {
                if (c > bid) {
                    allowed(c, bid);
                    allowed(c, bid, 0, 0);
                    allowed(c, bid, 1);
                    allowed(c, bid, 1, 2, 0);
                } else {
                    forbidden(c, bid);
                    forbidden(c, bid, 0, 0);
                    forbidden(c, bid, 1);
                    forbidden(c, bid, 1, 2, 0);
                }
            }
        }
        forbidden(5, 3, 6);
        forbidden(3, 3, 6);
    }

    private static void doubles() {
        forbidden(1);
        forbidden(1, 0);
        forbidden(1, 0, 0, 0);
        allowed(1, 3);
        forbidden(1, 3, 0);
        allowed(1, 3, 0, 0);
        forbidden(1, 3, 1);
        forbidden(1, 3, 1, 0);
        forbidden(1, 3, 1, 0, 0);
        forbidden(1, 3, 1, 2);
        forbidden(1, 3, 1, 2, 0);
        forbidden(1, 3, 1, 2, 0, 0);
        allowed(1, 3, 1, 2, 4);
        forbidden(1, 3, 1, 2, 4, 0);
        allowed(1, 3, 1, 4);
        allowed(1, 0, 0, 17, 0, 0);
    }

    private static void redoubles() {
        forbidden(2);
        forbidden(2, 0, 0, 0);
        forbidden(2, 3);
        forbidden(2, 3, 0);
        forbidden(2, 3, 0, 0);
        allowed(2, 3, 1);
        forbidden(2, 3, 1, 0);
        allowed(2, 3, 1, 0, 0);
        forbidden(2, 3, 1, 2);
        forbidden(2, 3, 1, 2, 0);
        forbidden(2, 3, 1, 2, 0, 0);
        forbidden(2, 3, 1, 4);
        forbidden(2, 3, 1, 4, 0);
        allowed(2, 3, 1, 4, 1);
        allowed(2, 3, 1, 2, 4, 1);
    }

    private static void passes() {
        allowed(0);
        allowed(0, 0, 0, 0);
        allowed(0, 3);
        allowed(0, 3, 0, 0);
        allowed(0, 3, 1);
        allowed(0, 3, 1, 2);
        allowed(0, 17);
        allowed(0, 17, 1, 2, 0, 0);
    }

    private static void forbidden(int c, int... calls) {
        for (int dealer = 0; dealer < 4; dealer++) {
            ShortBridge x = Boards.auction(dealer, calls);
            String what = "call " + c + " behind " + java.util.Arrays.toString(calls);
            Checks.refused(what, x, UnsupportedOperationException.class, () -> x.call(c));
        }
    }

    private static void allowed(int c, int... calls) {
        for (int dealer = 0; dealer < 4; dealer++) {
            ShortBridge x = Boards.auction(dealer, calls);
            int doubledBefore = x.contract(1);
            String what = "call " + c + " behind " + java.util.Arrays.toString(calls);
            Checks.due(what, Checks.answer(() -> x.call(c)), "nothing");
            int doubled = c == 0 ? doubledBefore : c > 2 ? 0 : c;
            Checks.due("contract(1) with " + what, x.contract(1), doubled);
        }
    }

    private static void threePasses() {
        phaseDue(1, 3);
        phaseDue(1, 3, 0);
        phaseDue(1, 3, 0, 0);
        phaseDue(2, 3, 0, 0, 0);
        phaseDue(1, 3, 1, 0, 0);
        phaseDue(2, 3, 1, 0, 0, 0);
        phaseDue(1, 3, 1, 2, 0, 0);
        phaseDue(2, 3, 1, 2, 0, 0, 0);
        phaseDue(1, 3, 0, 0, 1, 0, 0);
        phaseDue(2, 3, 0, 0, 1, 0, 0, 0);
        phaseDue(1, 3, 0, 0, 4, 0, 0);
        phaseDue(2, 3, 0, 0, 4, 0, 0, 0);
        phaseDue(1, 0, 0, 3, 0, 0);
        phaseDue(2, 0, 0, 3, 0, 0, 0);
    }

    private static void fourPasses() {
        phaseDue(1, 0);
        phaseDue(1, 0, 0);
        phaseDue(1, 0, 0, 0);
        phaseDue(3, 0, 0, 0, 0);
        // A bid in the fourth place: now three passes more are asked for.
        phaseDue(1, 0, 0, 0, 3);
        phaseDue(1, 0, 0, 0, 3, 0);
        phaseDue(1, 0, 0, 0, 3, 0, 0);
        phaseDue(2, 0, 0, 0, 3, 0, 0, 0);
        for (int dealer = 0; dealer < 4; dealer++) {
            ShortBridge x = Boards.auction(dealer, 0, 0, 0, 0);
            contractDue(x, -1, -1, -1);
            Checks.due("turn()", x.turn(), -1);
            Checks.due("score()", x.score(), 0);
        }
    }

    private static void phaseDue(int phase, int... calls) {
        for (int dealer = 0; dealer < 4; dealer++) {
            ShortBridge x = Boards.auction(dealer, calls);
            Checks.due("phase behind " + java.util.Arrays.toString(calls), x.phase(), phase);
        }
    }

    private static void lastBid() {
        Checks.due("the only bid", Boards.auction(0, 0, 3, 0, 0, 0).contract(0), 3);
        Checks.due("the last of two", Boards.auction(0, 3, 4, 0, 0, 0).contract(0), 4);
        Checks.due("the last of all", Boards.auction(0, 3, 1, 2, 16, 1, 17, 1, 0, 0, 0).contract(0), 17);
    }

    private static void timesDoubled() {
        Checks.due("no double", Boards.auction(0, 3, 0, 0, 0).contract(1), 0);
        Checks.due("a double", Boards.auction(0, 3, 1, 0, 0, 0).contract(1), 1);
        Checks.due("a double behind two passes", Boards.auction(0, 3, 0, 0, 1, 0, 0, 0).contract(1), 1);
        Checks.due("a redouble", Boards.auction(0, 3, 1, 2, 0, 0, 0).contract(1), 2);
        Checks.due("a redouble behind passes", Boards.auction(0, 3, 1, 0, 0, 2, 0, 0, 0).contract(1), 2);
        Checks.due("a double before the last bid", Boards.auction(0, 3, 1, 4, 0, 0, 0).contract(1), 0);
        Checks.due("a redouble before the last bid", Boards.auction(0, 3, 1, 2, 4, 0, 0, 0).contract(1), 0);
        Checks.due("a redouble before, a double behind", Boards.auction(0, 3, 1, 2, 4, 1, 0, 0, 0).contract(1), 1);
    }

    private static void declarers() {
        declarerDue(0, 0, 3, 0, 0, 0);
        declarerDue(3, 0, 0, 0, 0, 3, 0, 0, 0);
        // The partner was the first to bid the strain.
        declarerDue(0, 0, 3, 0, 8, 0, 0, 0);
        // The partner bid another strain.
        declarerDue(2, 0, 3, 0, 9, 0, 0, 0);
        // The other side bid the strain before.
        declarerDue(1, 0, 3, 8, 0, 0, 0);
        declarerDue(3, 0, 3, 0, 0, 8, 0, 0, 0);
        // The side comes back to the strain at a later time.
        declarerDue(2, 2, 3, 4, 9, 0, 13, 0, 0, 0);
        declarerDue(0, 2, 7, 0, 8, 0, 9, 0, 13, 0, 0, 0);
        // The strain for no suit is a strain too.
        declarerDue(1, 1, 7, 0, 12, 0, 17, 0, 0, 0);
        // A pass, a double or a redouble of the partner is no bid of any strain.
        declarerDue(2, 0, 0, 0, 5, 0, 0, 0);
        declarerDue(3, 0, 3, 1, 0, 11, 0, 0, 0);
        declarerDue(0, 0, 3, 1, 2, 0, 7, 0, 0, 0);
        declarerDue(1, 3, 0, 0, 5, 1, 10, 1, 0, 0, 0);
    }

    private static void declarerDue(int declarer, int dealer, int... calls) {
        ShortBridge x = Boards.auction(dealer, calls);
        String what = "declarer behind " + java.util.Arrays.toString(calls);
        Checks.due(what, x.contract(2), declarer);
        Checks.due("who leads", x.turn(), (declarer + 1) % 4);
    }

    private static void playBegins() {
        ShortBridge x = new ShortBridge();
        x.deal(0, 0, 0);
        Checks.calls(x, 3, 0, 0);
        Checks.refused("a card before the third pass", x, IllegalStateException.class, () -> x.play(5));
        x.call(0);
        Checks.due("phase()", x.phase(), 2);
        Checks.refused("a call behind the third pass", x, IllegalStateException.class, () -> x.call(0));
        x.play(5);
        Checks.due("table(0)", x.table(0), 5);
    }

    private static void longestAuction() {
        ShortBridge x = Boards.auction(0, 0, 0, 0);
        int made = 3;
        for (int bid = 3; bid <= 17; bid++) {
            Checks.calls(x, bid, 0, 0, 1, 0, 0, 2, 0, 0);
            made += 9;
            Checks.due("phase()", x.phase(), 1);
            Checks.due("turn()", x.turn(), made % 4);
            contractDue(x, bid, 2, x.contract(2));
        }
        x.call(0);
        Checks.due("phase()", x.phase(), 2);
        Checks.due("contract(0)", x.contract(0), 17);
        Checks.due("contract(1)", x.contract(1), 2);
    }
}
