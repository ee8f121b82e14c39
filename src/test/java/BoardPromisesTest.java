import java.math.BigInteger;
import java.util.Random;

/** Promises 1 to 7: a new object, deal, shuffle, number, phase, turn, has. */
public final class BoardPromisesTest {
    private static final int[] NO_PLAYERS = {-1, 4, 5, 20, 32, Integer.MIN_VALUE, Integer.MAX_VALUE};
    private static final int[] NO_CARDS = {-1, -20, 20, 32, 52, Integer.MIN_VALUE, Integer.MAX_VALUE};

    public static void main(String[] args) {
        promise1();
        promise2();
        promise3();
        promise4();
        promise5();
        promise6();
        promise7();
        Checks.end("BoardPromisesTest");
    }

    private static void promise1() {
        Checks.sentence("Promise 1: No board", BoardPromisesTest::noBoard);
        Checks.sentence("Promise 1: no results", BoardPromisesTest::noResults);
    }

    private static void promise2() {
        Checks.sentence("Promise 2: A board begins with the deal of this number", BoardPromisesTest::dealBegins);
        Checks.sentence("Promise 2: in place of another one", BoardPromisesTest::dealInPlaceOfAnother);
        Checks.sentence("Promise 2: (results stay)", BoardPromisesTest::resultsStay);
        Checks.sentence("Promise 2: Answers true", BoardPromisesTest::dealAnswersTrue);
        Checks.sentence("Promise 2: false when number is no number of a deal", BoardPromisesTest::noNumberOfADeal);
        Checks.sentence("Promise 2: dealer is no player", BoardPromisesTest::dealerIsNoPlayer);
        Checks.sentence("Promise 2: or vulnerable is not 0 .. 3", BoardPromisesTest::vulnerableIsNot0To3);
    }

    private static void promise3() {
        Checks.sentence("Promise 3: A board begins, with a deal out of a seed: the cards 0 .. 19 lie in a row; [..]"
            + " then the player at place i / 5 gets the card at i", BoardPromisesTest::shuffledByHand);
        Checks.sentence("Promise 3: (wrapping)", BoardPromisesTest::seedsAtTheEdges);
        Checks.sentence("Promise 3: Answers the deal's number", BoardPromisesTest::shuffleAnswersTheNumber);
        Checks.sentence("Promise 3: (in place of another board, results stay)", BoardPromisesTest::shuffleInPlaceOfAnother);
        Checks.sentence("Promise 3: NONE, as for deal(), when dealer [..] is not as there", BoardPromisesTest::shuffleByNoPlayer);
        Checks.sentence("Promise 3: NONE, as for deal(), when [..] vulnerable is not as there",
            BoardPromisesTest::shuffleWithWrongVulnerable);
    }

    private static void promise4() {
        Checks.sentence("Promise 4: The number of the board's deal", BoardPromisesTest::numberOfTheDeal);
        Checks.sentence("Promise 4: NONE when there is no board", BoardPromisesTest::numberWithoutBoard);
    }

    private static void promise5() {
        Checks.sentence("Promise 5: The phase.", BoardPromisesTest::phaseAtEachStep);
    }

    private static void promise6() {
        Checks.sentence("Promise 6: Who is to call or to play", BoardPromisesTest::turnAtEachStep);
        Checks.sentence("Promise 6: NONE when nobody is", BoardPromisesTest::nobodysTurn);
    }

    private static void promise7() {
        Checks.sentence("Promise 7: Whether player p has card c now", BoardPromisesTest::hasNow);
        Checks.sentence("Promise 7: (not played yet)", BoardPromisesTest::notPlayedYet);
        Checks.sentence("Promise 7: (no player, no card, no board)", BoardPromisesTest::nobodyHasNothing);
    }

    private static void noBoard() {
        ShortBridge x = new ShortBridge();
        Checks.due("phase()", x.phase(), 0);
        Checks.due("turn()", x.turn(), -1);
        Checks.due("number()", x.number(), -1);
        Checks.due("cards that somebody has", Boards.owners(x), "");
        Checks.due("contract(0)", x.contract(0), -1);
        Checks.due("tricks(0)", x.tricks(0), 0);
        Checks.due("tricks(1)", x.tricks(1), 0);
        Checks.due("table(0)", x.table(0), -1);
        Checks.due("back()", x.back(), false);
    }

    private static void noResults() {
        ShortBridge x = new ShortBridge();
        Checks.refused("points(0, 0)", x, IndexOutOfBoundsException.class, () -> x.points(0, 0));
        Checks.refused("places(0)", x, IndexOutOfBoundsException.class, () -> x.places(0));
        Boards.passOut(x, 0);
        Checks.due("the first record()", x.record(), 1);
    }

    private static void dealBegins() {
        ShortBridge x = new ShortBridge();
        x.deal(6, 2, 0);
        Checks.due("hands", Boards.owners(x), "00000111112223223333");
        Checks.due("number()", x.number(), 6);
        Checks.due("phase()", x.phase(), 1);
        Checks.due("turn()", x.turn(), 2);
        Checks.due("contract(0)", x.contract(0), -1);
        Checks.due("back()", x.back(), false);
    }

    private static void dealInPlaceOfAnother() {
        for (ShortBridge x : boardsOfEachPhase()) {
            Checks.due("deal", x.deal(42, 3, 3), true);
            asNew(x, 42, 3);
            // The new board's sides are vulnerable, not those of the old one.
            Checks.due("deal", x.deal(0, 0, 2), true);
            Checks.calls(x, 4, 0, 0, 0);
            Boards.playAll(x);
            Checks.due("score() of three tricks too few", x.score(), -150);
        }
    }

    /** Nothing of an earlier board is seen. */
    private static void asNew(ShortBridge x, long number, int dealer) {
        ShortBridge fresh = new ShortBridge();
        fresh.deal(number, dealer, 0);
        Checks.due("the new board", withoutResults(x), withoutResults(fresh));
        Checks.due("back()", x.back(), false);
    }

    private static String withoutResults(ShortBridge x) {
        return Checks.snapshot(x).split(" results")[0];
    }

    /** An auction, a play in its second trick, and two boards that are over, with a result each. */
    private static ShortBridge[] boardsOfEachPhase() {
        int[][] calls = {{3, 1, 2, 0}, {7, 0, 0, 0}, {7, 0, 0, 0}, {0, 0, 0, 0}};
        int[] cards = {0, 5, 20, 0};
        ShortBridge[] boards = new ShortBridge[4];
        for (int i = 0; i < 4; i++) {
            boards[i] = new ShortBridge();
            Boards.passOut(boards[i], 7);
            boards[i].record();
            boards[i].deal(0, 1, 3);
            Checks.calls(boards[i], calls[i]);
            for (int n = 0; n < cards[i]; n++) {
                Checks.playAny(boards[i], 0);
            }
        }
        return boards;
    }

    private static void resultsStay() {
        for (ShortBridge x : boardsOfEachPhase()) {
            x.deal(4, 1, 1);
            Checks.due("points(0, 0)", x.points(0, 0), 0);
            Boards.passOut(x, 7);
            Checks.due("record()", x.record(), 2);
            Checks.due("places(0)", x.places(0), 1);
        }
    }

    private static void dealAnswersTrue() {
        for (int k = 0; k < 16; k++) {
            ShortBridge x = new ShortBridge();
            Checks.due("deal(0, " + k / 4 + ", " + k % 4 + ")", x.deal(0, k / 4, k % 4), true);
            Checks.due("deal(LAST, " + k / 4 + ", " + k % 4 + ")", x.deal(Boards.LAST_DEAL, k / 4, k % 4), true);
        }
    }

    private static void noNumberOfADeal() {
        // The last two are numbers of a deal if only their lower half is looked at.
        long[] numbers = {-1, Boards.LAST_DEAL + 1, Long.MIN_VALUE, Long.MAX_VALUE, -Boards.LAST_DEAL, 1L << 34, 1L << 40};
        for (long number : numbers) {
            refusedDeal(number, 0, 0);
        }
    }

    private static void dealerIsNoPlayer() {
        for (int dealer : NO_PLAYERS) {
            refusedDeal(0, dealer, 0);
        }
    }

    private static void vulnerableIsNot0To3() {
        for (int vulnerable : new int[] {-1, 4, 5, 7, 8, Integer.MIN_VALUE, Integer.MAX_VALUE}) {
            refusedDeal(0, 0, vulnerable);
        }
    }

    private static void refusedDeal(long number, int dealer, int vulnerable) {
        String what = "deal(" + number + ", " + dealer + ", " + vulnerable + ")";
        Checks.due(what + " without a board", new ShortBridge().deal(number, dealer, vulnerable), false);
        for (ShortBridge x : boardsOfEachPhase()) {
            String before = Checks.snapshot(x);
            Checks.due(what, x.deal(number, dealer, vulnerable), false);
            Checks.due("the object behind " + what, Checks.snapshot(x), before);
        }
    }

    private static void shuffledByHand() {
        Random random = new Random(3);
        for (int i = 0; i < 1000; i++) {
            long seed = i < 20 ? i - 10 : random.nextLong();
            shuffleDue(seed, i % 4, i / 4 % 4);
        }
    }

    private static void seedsAtTheEdges() {
        long[] seeds = {0, 1, -1, Long.MIN_VALUE, Long.MIN_VALUE + 1, Long.MAX_VALUE, 1L << 33, 1L << 32, 0xFFFFFFFFL};
        for (long seed : seeds) {
            shuffleDue(seed, 0, 0);
        }
    }

    private static void shuffleDue(long seed, int dealer, int vulnerable) {
        ShortBridge x = new ShortBridge();
        x.shuffle(seed, dealer, vulnerable);
        Checks.due("hands of shuffle(" + seed + ")", Boards.owners(x), shuffled(seed));
        Checks.due("phase() behind it", x.phase(), 1);
        Checks.due("turn() behind it", x.turn(), dealer);
    }

    private static String shuffled(long seed) {
        int[] row = new int[20];
        for (int i = 0; i < 20; i++) {
            row[i] = i;
        }
        BigInteger h = BigInteger.valueOf(seed);
        for (int i = 19; i >= 1; i--) {
            h = h.multiply(new BigInteger("6364136223846793005")).add(new BigInteger("1442695040888963407"));
            h = h.mod(BigInteger.ONE.shiftLeft(64));
            int j = h.shiftRight(33).mod(BigInteger.valueOf(i + 1)).intValue();
            int kept = row[i];
            row[i] = row[j];
            row[j] = kept;
        }
        char[] owners = new char[20];
        for (int i = 0; i < 20; i++) {
            owners[row[i]] = (char) ('0' + i / 5);
        }
        return new String(owners);
    }

    private static void shuffleAnswersTheNumber() {
        Random random = new Random(9);
        ShortBridge x = new ShortBridge();
        for (int i = 0; i < 100; i++) {
            long seed = random.nextLong();
            long number = x.shuffle(seed, 0, 0);
            Checks.due("shuffle(" + seed + ")", number, Checks.numberOf(shuffled(seed)));
            Checks.due("number() behind it", x.number(), number);
            Checks.due("the same deal by its number", Boards.ownersOf(number), shuffled(seed));
        }
    }

    private static void shuffleInPlaceOfAnother() {
        for (ShortBridge x : boardsOfEachPhase()) {
            long number = x.shuffle(99, 2, 0);
            asNew(x, number, 2);
            Checks.due("points(0, 0)", x.points(0, 0), 0);
            Checks.calls(x, 0, 0, 0, 0);
            Checks.due("record()", x.record(), 2);
        }
    }

    private static void shuffleByNoPlayer() {
        for (int dealer : NO_PLAYERS) {
            refusedShuffle(dealer, 0);
        }
    }

    private static void shuffleWithWrongVulnerable() {
        for (int vulnerable : new int[] {-1, 4, 5, 7, 8, Integer.MIN_VALUE, Integer.MAX_VALUE}) {
            refusedShuffle(0, vulnerable);
        }
    }

    private static void refusedShuffle(int dealer, int vulnerable) {
        String what = "shuffle(1, " + dealer + ", " + vulnerable + ")";
        ShortBridge none = new ShortBridge();
        Checks.due(what + " without a board", none.shuffle(1, dealer, vulnerable), -1);
        Checks.due("phase() behind it", none.phase(), 0);
        for (ShortBridge x : boardsOfEachPhase()) {
            String before = Checks.snapshot(x);
            Checks.due(what, x.shuffle(1, dealer, vulnerable), -1);
            Checks.due("the object behind " + what, Checks.snapshot(x), before);
        }
    }

    private static void numberOfTheDeal() {
        ShortBridge x = new ShortBridge();
        for (long number : new long[] {0, 1, 1L << 31, 1L << 32, Boards.LAST_DEAL - 1, Boards.LAST_DEAL}) {
            x.deal(number, 0, 0);
            Checks.due("number() in the auction", x.number(), number);
            Checks.calls(x, 3, 0, 0, 0);
            Checks.due("number() in the play", x.number(), number);
            Boards.playAll(x);
            Checks.due("number() when it is over", x.number(), number);
            x.back();
            Checks.due("number() behind back()", x.number(), number);
            Boards.passOut(x, number);
            Checks.due("number() without a contract", x.number(), number);
        }
    }

    private static void numberWithoutBoard() {
        ShortBridge x = new ShortBridge();
        Checks.due("number()", x.number(), -1);
        x.deal(Boards.LAST_DEAL + 1, 0, 0);
        x.shuffle(1, 4, 0);
        Checks.due("number() behind refused deals", x.number(), -1);
    }

    private static void phaseAtEachStep() {
        ShortBridge x = new ShortBridge();
        Checks.due("phase() of a new object", x.phase(), 0);
        x.deal(0, 0, 0);
        for (int c : new int[] {3, 0, 0, 0}) {
            Checks.due("phase() in the auction", x.phase(), 1);
            x.call(c);
        }
        for (int i = 0; i < 20; i++) {
            Checks.due("phase() behind " + i + " cards", x.phase(), 2);
            Checks.playAny(x, 0);
        }
        Checks.due("phase() when it is over", x.phase(), 3);
        x.back();
        Checks.due("phase() when the last card is taken back", x.phase(), 2);
        x.deal(0, 0, 0);
        for (int i = 0; i < 4; i++) {
            Checks.due("phase() behind " + i + " passes", x.phase(), 1);
            x.call(0);
        }
        Checks.due("phase() behind four passes", x.phase(), 3);
        x.back();
        Checks.due("phase() when the last pass is taken back", x.phase(), 1);
    }

    private static void turnAtEachStep() {
        for (int dealer = 0; dealer < 4; dealer++) {
            ShortBridge x = new ShortBridge();
            x.deal(0, dealer, 0);
            int[] calls = {7, 0, 0, 0};
            for (int i = 0; i < 4; i++) {
                Checks.due("who calls", x.turn(), (dealer + i) % 4);
                x.call(calls[i]);
            }
            for (int i = 0; i < 20; i++) {
                Checks.due("who plays card " + i, x.turn(), (dealer + 1 + i) % 4);
                Checks.playAny(x, 0);
            }
        }
    }

    private static void nobodysTurn() {
        Checks.due("turn() without a board", new ShortBridge().turn(), -1);
        Checks.due("turn() without a contract", Boards.passedOut().turn(), -1);
        for (int declarer = 0; declarer < 4; declarer++) {
            Checks.due("turn() behind all cards", Boards.playedOut(declarer, 7).turn(), -1);
        }
    }

    private static void hasNow() {
        ShortBridge x = new ShortBridge();
        x.deal(0, 0, 0);
        for (int k = 0; k < 80; k++) {
            Checks.due("has(" + k / 20 + ", " + k % 20 + ")", x.has(k / 20, k % 20), k % 20 / 5 == k / 20);
        }
        Checks.calls(x, 0, 0, 0, 0);
        Checks.due("hands without a contract", Boards.owners(x), Boards.WHOLE_SUITS);
        x.deal(Boards.LAST_DEAL, 0, 0);
        Checks.due("hands of the next board", Boards.owners(x), "33333222221111100000");
    }

    private static void notPlayedYet() {
        ShortBridge x = Boards.playing(Boards.WHOLE_SUITS, 0, 3);
        Checks.due("has(1, 7) before it is played", x.has(1, 7), true);
        x.play(7);
        Checks.due("has(1, 7) when it is on the table", x.has(1, 7), false);
        x.back();
        Checks.due("has(1, 7) when it is taken back", x.has(1, 7), true);
        Checks.plays(x, 7, 10, 15, 0);
        for (int k = 0; k < 4; k++) {
            Checks.due("a card of a finished trick", x.has(k, new int[] {0, 7, 10, 15}[k]), false);
        }
        Boards.playAll(x);
        Checks.due("hands when it is over", Boards.owners(x), "");
    }

    private static void nobodyHasNothing() {
        ShortBridge x = Boards.auction(0);
        ShortBridge none = new ShortBridge();
        for (int p : NO_PLAYERS) {
            for (int c = 0; c < 20; c++) {
                Checks.due("has(" + p + ", " + c + ")", x.has(p, c), false);
            }
            for (int c : NO_CARDS) {
                Checks.due("has(" + p + ", " + c + ")", x.has(p, c), false);
            }
        }
        for (int p = 0; p < 4; p++) {
            for (int c : NO_CARDS) {
                Checks.due("has(" + p + ", " + c + ")", x.has(p, c), false);
            }
            for (int c = 0; c < 20; c++) {
                Checks.due("has(" + p + ", " + c + ") without a board", none.has(p, c), false);
            }
        }
    }
}
