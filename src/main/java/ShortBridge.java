import java.util.NoSuchElementException;

/** Bridge with twenty cards: a board from its deal to its score, results of boards, and endings solved. */
public final class ShortBridge {
    public static final int NONE = -1;

    private static final int PLAYERS = 4;
    private static final int HAND = 5;
    private static final int CARDS = 20;
    private static final int RANKS = 5;
    private static final int NO_TRUMP = 4;

    private static final int NO_BOARD = 0;
    private static final int AUCTION = 1;
    private static final int PLAY = 2;
    private static final int OVER = 3;

    private final Deal dealt = new Deal();
    private final Auction auction = new Auction();
    private final Hands hands = new Hands();
    private final Results results = new Results();
    private boolean hasBoard;
    private int vulnerability;

    public ShortBridge() {
    }

    public boolean deal(long number, int dealer, int vulnerable) {
        if (!Deal.isNumber(number) || !canBegin(dealer, vulnerable)) {
            return false;
        }
        dealt.takeNumber(number);
        begin(dealer, vulnerable);
        return true;
    }

    public long shuffle(long seed, int dealer, int vulnerable) {
        if (!canBegin(dealer, vulnerable)) {
            return NONE;
        }
        dealt.takeSeed(seed);
        begin(dealer, vulnerable);
        return dealt.rank;
    }

    public long number() {
        return hasBoard ? dealt.rank : NONE;
    }

    public int phase() {
        if (!hasBoard) {
            return NO_BOARD;
        }
        if (!auction.hasEnded()) {
            return AUCTION;
        }
        return auction.bid() == NONE || hands.areEmpty() ? OVER : PLAY;
    }

    public int turn() {
        switch (phase()) {
            case AUCTION:
                return auction.caller();
            case PLAY:
                return hands.player();
            default:
                return NONE;
        }
    }

    public boolean has(int p, int c) {
        return isPlayer(p) && hands.holds(p, c);
    }

    public void call(int c) throws IllegalStateException, IllegalArgumentException, UnsupportedOperationException {
        if (phase() != AUCTION) {
            throw new IllegalStateException("there is no auction");
        }
        if (!Auction.isCall(c)) {
            throw new IllegalArgumentException("it is no call");
        }
        if (!auction.allows(c)) {
            throw new UnsupportedOperationException("the call is not allowed");
        }
        auction.add(c);
        if (phase() == PLAY) {
            hands.beginPlay(auction.declarer(), Auction.strain(auction.bid()));
        }
    }

    public void play(int c) throws IllegalStateException, java.util.NoSuchElementException, UnsupportedOperationException {
        if (phase() != PLAY) {
            throw new IllegalStateException("there is no play");
        }
        if (!hands.holds(hands.player(), c)) {
            throw new NoSuchElementException("the player does not have the card");
        }
        if (!hands.allow(c)) {
            throw new UnsupportedOperationException("the player has a card of the suit that was led");
        }
        hands.put(c);
    }

    public boolean back() {
        if (hands.count > 0) {
            hands.takeBack();
            return true;
        }
        if (phase() == PLAY || auction.count == 0) {
            return false;
        }
        auction.takeBack();
        return true;
    }

    public int contract(int what) {
        if (auction.bid() == NONE) {
            return NONE;
        }
        switch (what) {
            case 0:
                return auction.bid();
            case 1:
                return auction.doubled();
            case 2:
                return auction.declarer();
            default:
                return NONE;
        }
    }

    public int tricks(int side) {
        return side == 0 || side == 1 ? hands.won(side) : NONE;
    }

    public int table(int i) {
        return hands.onTable(i);
    }

    public int score() throws IllegalStateException {
        if (phase() != OVER) {
            throw new IllegalStateException("the board is not over");
        }
        return scoreOfSide0();
    }

    public int solve() throws IllegalStateException, UnsupportedOperationException {
        if (phase() != PLAY) {
            throw new IllegalStateException("there is no play");
        }
        if (hands.count < PLAYERS) {
            throw new UnsupportedOperationException("some player has 5 cards");
        }
        return Solver.tricksOf(hands, sideOf(auction.declarer()));
    }

    public int record() throws IllegalStateException, UnsupportedOperationException {
        if (phase() != OVER) {
            throw new IllegalStateException("the board is not over");
        }
        if (results.areFull()) {
            throw new UnsupportedOperationException("there are 12 results");
        }
        results.add(dealt.rank, scoreOfSide0());
        return results.count;
    }

    public int points(int i, int j) throws IndexOutOfBoundsException {
        if (!results.contain(i) || !results.contain(j)) {
            throw new IndexOutOfBoundsException("there is no such result");
        }
        return Scoring.pointsOf(results.scores[i] - results.scores[j]);
    }

    public int places(int i) throws IndexOutOfBoundsException {
        if (!results.contain(i)) {
            throw new IndexOutOfBoundsException("there is no such result");
        }
        return results.compare(i);
    }

    private static boolean isPlayer(int p) {
        return p >= 0 && p < PLAYERS;
    }

    private static int sideOf(int player) {
        return player & 1;
    }

    private static int playerBehind(int player, int steps) {
        return (player + steps) % PLAYERS;
    }

    private static boolean canBegin(int dealer, int vulnerable) {
        return isPlayer(dealer) && vulnerable >= 0 && vulnerable <= 3;
    }

    private void begin(int dealer, int vulnerable) {
        hasBoard = true;
        vulnerability = vulnerable;
        auction.begin(dealer);
        hands.take(dealt);
    }

    private int scoreOfSide0() {
        int bid = auction.bid();
        if (bid == NONE) {
            return 0;
        }
        int side = sideOf(auction.declarer());
        boolean vulnerable = ((vulnerability >> side) & 1) == 1;
        int score = Scoring.scoreOf(bid, auction.doubled(), hands.won(side), vulnerable);
        return side == 0 ? score : -score;
    }

    /** Who gets each card, and the number of that deal. */
    private static final class Deal {
        private static final long DEALS = 11732745024L;
        private static final long FACTOR = 6364136223846793005L;
        private static final long STEP = 1442695040888963407L;

        private final int[] owners = new int[CARDS];
        private final int[] row = new int[CARDS];
        private final int[] left = new int[PLAYERS];
        private long rank;

        static boolean isNumber(long number) {
            return number >= 0 && number < DEALS;
        }

        void takeNumber(long number) {
            rank = number;
            fillLeft();
            long rest = number;
            long ways = DEALS;
            for (int card = 0; card < CARDS; card++) {
                int player = 0;
                long part = share(ways, player, card);
                while (player < PLAYERS - 1 && rest >= part) {
                    rest -= part;
                    player++;
                    part = share(ways, player, card);
                }
                owners[card] = player;
                left[player]--;
                ways = part;
            }
        }

        void takeSeed(long seed) {
            shuffleRow(seed);
            for (int i = 0; i < CARDS; i++) {
                owners[row[i]] = i / HAND;
            }
            rank = rankOfOwners();
        }

        private void shuffleRow(long seed) {
            for (int i = 0; i < CARDS; i++) {
                row[i] = i;
            }
            long h = seed;
            for (int i = CARDS - 1; i >= 1; i--) {
                h = h * FACTOR + STEP;
                int other = (int) ((h >>> 33) % (i + 1));
                int card = row[i];
                row[i] = row[other];
                row[other] = card;
            }
        }

        private long rankOfOwners() {
            fillLeft();
            long before = 0;
            long ways = DEALS;
            for (int card = 0; card < CARDS; card++) {
                int owner = owners[card];
                for (int player = 0; player < owner; player++) {
                    before += share(ways, player, card);
                }
                ways = share(ways, owner, card);
                left[owner]--;
            }
            return before;
        }

        private void fillLeft() {
            for (int player = 0; player < PLAYERS; player++) {
                left[player] = HAND;
            }
        }

        // Of all ways to deal the cards from this one on, those that give it to a player are to all
        // of them as that player's open places are to all open places, so the division is exact.
        private long share(long ways, int player, int card) {
            return ways * left[player] / (CARDS - card);
        }
    }

    /** The calls of a board, in order. */
    private static final class Auction {
        private static final int PASS = 0;
        private static final int DOUBLE = 1;
        private static final int REDOUBLE = 2;
        private static final int FIRST_BID = 3;
        private static final int LAST_BID = 17;
        private static final int STRAINS = 5;
        // Three passes, then with each of 15 bids a double and a redouble, two passes behind each of
        // these 45 calls, and one pass more at the end.
        private static final int LONGEST = 139;

        private final int[] calls = new int[LONGEST];
        private int count;
        private int dealer;

        static boolean isCall(int c) {
            return c >= PASS && c <= LAST_BID;
        }

        static int level(int bid) {
            return 1 + (bid - FIRST_BID) / STRAINS;
        }

        static int strain(int bid) {
            return (bid - FIRST_BID) % STRAINS;
        }

        void begin(int firstCaller) {
            dealer = firstCaller;
            count = 0;
        }

        int caller() {
            return callerOf(count);
        }

        boolean allows(int c) {
            switch (c) {
                case PASS:
                    return true;
                case DOUBLE:
                    return latestOfOthers() >= FIRST_BID;
                case REDOUBLE:
                    return latestOfOthers() == DOUBLE;
                default:
                    return c > bid();
            }
        }

        void add(int c) {
            if (count < LONGEST) {
                calls[count] = c;
                count++;
            }
        }

        void takeBack() {
            if (count > 0) {
                count--;
            }
        }

        boolean hasEnded() {
            int at = placeOfLatest(DOUBLE);
            int passes = count - 1 - at;
            return passes >= (at == NONE ? 4 : 3);
        }

        int bid() {
            int at = placeOfLatest(FIRST_BID);
            return at == NONE ? NONE : calls[at];
        }

        int doubled() {
            int at = placeOfLatest(DOUBLE);
            if (at == NONE || calls[at] >= FIRST_BID) {
                return 0;
            }
            return calls[at] == REDOUBLE ? 2 : 1;
        }

        int declarer() {
            int last = placeOfLatest(FIRST_BID);
            if (last == NONE) {
                return NONE;
            }
            for (int at = 0; at < last; at++) {
                if (isSameSide(at, last) && calls[at] >= FIRST_BID && strain(calls[at]) == strain(calls[last])) {
                    return callerOf(at);
                }
            }
            return callerOf(last);
        }

        private int latestOfOthers() {
            int at = placeOfLatest(DOUBLE);
            return at == NONE || isSameSide(at, count) ? NONE : calls[at];
        }

        // With DOUBLE as the least call, every call counts that is no pass.
        private int placeOfLatest(int least) {
            for (int at = count - 1; at >= 0; at--) {
                if (calls[at] >= least) {
                    return at;
                }
            }
            return NONE;
        }

        private int callerOf(int at) {
            return playerBehind(dealer, at);
        }

        private boolean isSameSide(int at, int other) {
            return sideOf(callerOf(at)) == sideOf(callerOf(other));
        }
    }

    /** The cards in the hands and those that were played, in order; a hand is a set of bits, one a card. */
    private static final class Hands {
        private static final int TRICKS = 5;
        private static final int SUIT_BITS = 31;

        private final int[] held = new int[PLAYERS];
        // The cards that were dealt, player after player, each hand from the highest card down.
        private final int[] cards = new int[CARDS];
        private final int[] played = new int[CARDS];
        private final int[] leaders = new int[TRICKS + 1];
        private int count;
        private int trump = NO_TRUMP;

        void take(Deal deal) {
            for (int player = 0; player < PLAYERS; player++) {
                takeHand(deal, player);
            }
            count = 0;
        }

        void beginPlay(int declarer, int strain) {
            leaders[0] = playerBehind(declarer, 1);
            trump = strain;
        }

        boolean areEmpty() {
            return count == CARDS;
        }

        int player() {
            return playerBehind(leaders[count / PLAYERS], count % PLAYERS);
        }

        boolean holds(int player, int card) {
            return card >= 0 && card < CARDS && ((held[player] >> card) & 1) == 1;
        }

        int allowed() {
            int hand = held[player()];
            int inTrick = count % PLAYERS;
            if (inTrick == 0) {
                return hand;
            }
            int following = hand & (SUIT_BITS << (played[count - inTrick] / RANKS * RANKS));
            return following == 0 ? hand : following;
        }

        boolean allow(int card) {
            return ((allowed() >> card) & 1) == 1;
        }

        void put(int card) {
            if (count < CARDS) {
                held[player()] &= ~(1 << card);
                played[count] = card;
                count++;
                if (count % PLAYERS == 0) {
                    leaders[count / PLAYERS] = winnerOf(count / PLAYERS - 1);
                }
            }
        }

        void takeBack() {
            if (count > 0) {
                count--;
                held[player()] |= 1 << played[count];
            }
        }

        int won(int side) {
            int tricks = 0;
            for (int trick = 1; trick <= count / PLAYERS; trick++) {
                if (sideOf(leaders[trick]) == side) {
                    tricks++;
                }
            }
            return tricks;
        }

        int onTable(int i) {
            int inTrick = count % PLAYERS;
            return i >= 0 && i < inTrick ? played[count - inTrick + i] : NONE;
        }

        // The cards that can still win or lose against another: those of finished tricks cannot.
        int live() {
            int cardsThere = held[0] | held[1] | held[2] | held[3];
            for (int at = count - count % PLAYERS; at < count; at++) {
                cardsThere |= 1 << played[at];
            }
            return cardsThere;
        }

        private void takeHand(Deal deal, int player) {
            held[player] = 0;
            int place = player * HAND;
            for (int card = CARDS - 1; card >= 0 && place < CARDS; card--) {
                if (deal.owners[card] == player) {
                    held[player] |= 1 << card;
                    cards[place] = card;
                    place++;
                }
            }
        }

        private int winnerOf(int trick) {
            int first = trick * PLAYERS;
            int best = 0;
            for (int i = 1; i < PLAYERS; i++) {
                if (beats(played[first + i], played[first + best])) {
                    best = i;
                }
            }
            return playerBehind(leaders[trick], best);
        }

        private boolean beats(int card, int best) {
            int suit = card / RANKS;
            return suit == best / RANKS ? card > best : suit == trump;
        }
    }

    /** Finds what an ending is worth by trying the ways to play it. */
    private static final class Solver {
        static int tricksOf(Hands hands, int side) {
            int cardsLeft = CARDS - hands.count;
            int more = 0;
            while (more < tricksIn(cardsLeft) && reaches(hands, side, more + 1, cardsLeft)) {
                more++;
            }
            return hands.won(side) + more;
        }

        private static int tricksIn(int cardsLeft) {
            return (cardsLeft + PLAYERS - 1) / PLAYERS;
        }

        // Whether the side can get so many tricks more. No card left means no trick to be had, which
        // ends the search.
        private static boolean reaches(Hands hands, int side, int need, int cardsLeft) {
            if (need <= 0 || need > tricksIn(cardsLeft)) {
                return need <= 0;
            }
            int player = hands.player();
            boolean isOwnTurn = sideOf(player) == side;
            int allowed = hands.allowed();
            int live = hands.live();
            int higher = NONE;
            for (int place = player * HAND; place < (player + 1) * HAND; place++) {
                int card = hands.cards[place];
                if (((allowed >> card) & 1) == 1) {
                    if (!areAlike(card, higher, live) && reachesWith(card, hands, side, need, cardsLeft) == isOwnTurn) {
                        return isOwnTurn;
                    }
                    higher = card;
                }
            }
            return !isOwnTurn;
        }

        private static boolean reachesWith(int card, Hands hands, int side, int need, int cardsLeft) {
            hands.put(card);
            boolean isTrickWon = hands.count % PLAYERS == 0 && sideOf(hands.player()) == side;
            boolean answer = reaches(hands, side, isTrickWon ? need - 1 : need, cardsLeft - 1);
            hands.takeBack();
            return answer;
        }

        // Two cards of a hand win and lose against the same cards if no live card lies between them,
        // so it is enough to try one of them.
        private static boolean areAlike(int card, int higher, int live) {
            if (higher == NONE || card / RANKS != higher / RANKS) {
                return false;
            }
            int between = (1 << higher) - (1 << (card + 1));
            return (live & between) == 0;
        }
    }

    /** What a contract scores, and what a difference of scores is in points. */
    private static final class Scoring {
        private static final int[] STEPS = {
            20, 50, 90, 130, 170, 220, 270, 320, 370, 430, 500, 600, 750, 900, 1100, 1300, 1500, 1750, 2000
        };

        static int scoreOf(int bid, int doubled, int tricks, boolean vulnerable) {
            int above = tricks - (Auction.level(bid) + 2);
            if (above < 0) {
                return -penalty(-above, doubled, vulnerable);
            }
            return made(bid, doubled, vulnerable) + above * extraTrick(bid, doubled, vulnerable);
        }

        static int pointsOf(int difference) {
            int amount = Math.abs(difference);
            int points = 0;
            for (int i = 0; i < STEPS.length; i++) {
                if (STEPS[i] <= amount) {
                    points++;
                }
            }
            return difference < 0 ? -points : points;
        }

        private static int worth(int bid) {
            return Auction.strain(bid) < 2 ? 20 : 30;
        }

        private static int made(int bid, int doubled, boolean vulnerable) {
            int level = Auction.level(bid);
            int first = Auction.strain(bid) == NO_TRUMP ? 10 : 0;
            int score = (level * worth(bid) + first) << doubled;
            if (score < 100) {
                score += 50;
            } else {
                score += vulnerable ? 500 : 300;
            }
            if (level == 3) {
                score += vulnerable ? 600 : 400;
            }
            return score + 50 * doubled;
        }

        private static int extraTrick(int bid, int doubled, boolean vulnerable) {
            if (doubled == 0) {
                return worth(bid);
            }
            return (vulnerable ? 200 : 100) * doubled;
        }

        private static int penalty(int missing, int doubled, boolean vulnerable) {
            if (doubled == 0) {
                return (vulnerable ? 100 : 50) * missing;
            }
            int sum = 0;
            for (int trick = 1; trick <= missing; trick++) {
                sum += missingTrick(trick, vulnerable);
            }
            return sum * doubled;
        }

        private static int missingTrick(int trick, boolean vulnerable) {
            if (trick == 1) {
                return vulnerable ? 200 : 100;
            }
            return vulnerable || trick > 3 ? 300 : 200;
        }
    }

    /** The results that were recorded, in order. */
    private static final class Results {
        private static final int MOST = 12;

        private final long[] numbers = new long[MOST];
        private final int[] scores = new int[MOST];
        private int count;

        boolean areFull() {
            return count == MOST;
        }

        boolean contain(int i) {
            return i >= 0 && i < count;
        }

        void add(long number, int score) {
            if (count < MOST) {
                numbers[count] = number;
                scores[count] = score;
                count++;
            }
        }

        int compare(int i) {
            int sum = 0;
            for (int other = 0; other < count; other++) {
                if (other != i && numbers[other] == numbers[i]) {
                    sum += worthAgainst(scores[i], scores[other]);
                }
            }
            return sum;
        }

        private static int worthAgainst(int own, int other) {
            if (own == other) {
                return 1;
            }
            return own > other ? 2 : 0;
        }
    }
}
