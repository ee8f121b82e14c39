import java.util.Random;

/** Short ways to the boards that the tests begin with. */
final class Boards {
    static final long LAST_DEAL = 11732745023L;
    /** Player p has the cards c with c % 4 = p: 0 4 8 12 16, 1 5 9 13 17, 2 6 10 14 18, 3 7 11 15 19. */
    static final String ROUND = "01230123012301230123";
    /** Deal 0: player p has all cards of suit p. */
    static final String WHOLE_SUITS = "00000111112222233333";

    private static final Random RANDOM = new Random(6);

    private Boards() {
    }

    static ShortBridge auction(int dealer, int... calls) {
        ShortBridge x = new ShortBridge();
        x.deal(123456789, dealer, 0);
        Checks.calls(x, calls);
        return x;
    }

    /** The play of a bid that its bidder alone made, with these cards played. */
    static ShortBridge playing(String owners, int declarer, int bid, int... cards) {
        ShortBridge x = new ShortBridge();
        x.deal(Checks.numberOf(owners), declarer, 0);
        Checks.calls(x, bid, 0, 0, 0);
        Checks.plays(x, cards);
        return x;
    }

    static ShortBridge passedOut() {
        return auction(0, 0, 0, 0, 0);
    }

    /** The end of deal 0, in which all tricks go to who has the trumps, or, without trumps, to the leader. */
    static ShortBridge playedOut(int declarer, int bid) {
        ShortBridge x = playing(WHOLE_SUITS, declarer, bid);
        playAll(x);
        return x;
    }

    static void playAll(ShortBridge x) {
        while (x.phase() == 2) {
            Checks.playAny(x, 0);
        }
    }

    static void passOut(ShortBridge x, long number) {
        x.deal(number, 0, 0);
        Checks.calls(x, 0, 0, 0, 0);
    }

    /** Deal 0 is brought to its end on an object that is in use. */
    static void playOut(ShortBridge x, int declarer, int bid, int doubled, int vulnerable) {
        x.deal(0, declarer, vulnerable);
        bidAndDouble(x, bid, doubled);
        playAll(x);
    }

    static void bidAndDouble(ShortBridge x, int bid, int doubled) {
        x.call(bid);
        for (int c = 1; c <= doubled; c++) {
            x.call(c);
        }
        Checks.calls(x, 0, 0, 0);
    }

    /** A board that is over with so many tricks for declarer's side, found by chance. */
    static ShortBridge over(int bid, int doubled, int tricks, int declarer, int vulnerable) {
        for (int i = 0; i < 100000; i++) {
            ShortBridge x = new ShortBridge();
            x.shuffle(RANDOM.nextLong(), declarer, vulnerable);
            bidAndDouble(x, bid, doubled);
            if (isPlayedOut(x, declarer % 2, tricks)) {
                return x;
            }
        }
        throw new IllegalArgumentException("no board came to " + tricks + " tricks");
    }

    private static boolean isPlayedOut(ShortBridge x, int side, int tricks) {
        for (int i = 0; i < 20; i++) {
            Checks.playAny(x, RANDOM.nextInt(20));
            if (x.tricks(side) > tricks || 5 - x.tricks(1 - side) < tricks) {
                return false;
            }
        }
        return true;
    }

    /** Who has each card; a card that was played is left out. */
    static String owners(ShortBridge x) {
        StringBuilder s = new StringBuilder();
        for (int c = 0; c < 20; c++) {
            for (int p = 0; p < 4; p++) {
                if (x.has(p, c)) {
                    s.append(p);
                }
            }
        }
        return s.toString();
    }

    static String ownersOf(long number) {
        ShortBridge x = new ShortBridge();
        Checks.due("deal(" + number + ")", x.deal(number, 0, 0), true);
        Checks.due("number()", x.number(), number);
        return owners(x);
    }

    /** A whole deal: each point of the pattern becomes the first player who has not yet five cards. */
    static String fill(String pattern) {
        int[] left = {5, 5, 5, 5};
        for (char owner : pattern.toCharArray()) {
            if (owner != '.') {
                left[owner - '0']--;
            }
        }
        StringBuilder s = new StringBuilder();
        for (char owner : pattern.toCharArray()) {
            if (owner != '.') {
                s.append(owner);
                continue;
            }
            int p = 0;
            while (left[p] == 0) {
                p++;
            }
            left[p]--;
            s.append(p);
        }
        return s.toString();
    }
}
