import java.math.BigInteger;
import java.util.Random;

/** Promises 2 deal, 3 shuffle, 4 number and 7 has. */
public final class DealTest {
    private static final long LAST = 11732745023L;

    public static void main(String[] args) {
        firstAndLastDeal();
        numbersAreInOrder();
        numbersByCounting();
        shuffles();
        oneObjectForManyDeals();
        refusedDeals();
        refusedShuffles();
        newBoardInPlaceOfAnother();
        hasOfNobodyAndNothing();
        Checks.end("DealTest");
    }

    private static void firstAndLastDeal() {
        Checks.due("deal(0)", ownersOf(0), "00000111112222233333");
        Checks.due("deal(1)", ownersOf(1), "00000111112222323333");
        Checks.due("deal(5)", ownersOf(5), "00000111112222333332");
        Checks.due("deal(6)", ownersOf(6), "00000111112223223333");
        Checks.due("the last deal", ownersOf(LAST), "33333222221111100000");
        Checks.due("the last deal but one", ownersOf(LAST - 1), "33333222221111010000");
        Checks.due("the first of player 3 with card 0", ownersOf(LAST + 1 - (LAST + 1) / 4), "30000011111222223333");
    }

    private static void numbersAreInOrder() {
        Random random = new Random(1);
        for (int i = 0; i < 2000; i++) {
            long number = (long) (random.nextDouble() * LAST);
            Checks.due("the deal behind " + number, ownersOf(number + 1), next(ownersOf(number)));
        }
    }

    private static void numbersByCounting() {
        Random random = new Random(2);
        for (int i = 0; i < 500; i++) {
            long number = (long) (random.nextDouble() * LAST);
            Checks.due("rows before deal " + number, Checks.numberOf(ownersOf(number)), number);
        }
    }

    private static void shuffles() {
        Random random = new Random(3);
        for (int i = 0; i < 2000; i++) {
            long seed = i < 20 ? i - 10 : random.nextLong();
            shuffleOf(seed, i % 4, i / 4 % 4);
        }
        shuffleOf(Long.MIN_VALUE, 0, 0);
        shuffleOf(Long.MAX_VALUE, 3, 3);
    }

    private static void oneObjectForManyDeals() {
        Random random = new Random(9);
        ShortBridge x = new ShortBridge();
        for (int i = 0; i < 200; i++) {
            long seed = random.nextLong();
            long number = x.shuffle(seed, 0, 0);
            Checks.due("hands of shuffle(" + seed + ") again", owners(x), shuffled(seed));
            x.deal(LAST - number, 0, 0);
            Checks.due("hands of deal(" + (LAST - number) + ") again", owners(x), ownersOf(LAST - number));
        }
    }

    private static void shuffleOf(long seed, int dealer, int vulnerable) {
        ShortBridge x = new ShortBridge();
        long number = x.shuffle(seed, dealer, vulnerable);
        String owners = shuffled(seed);
        Checks.due("hands of shuffle(" + seed + ")", owners(x), owners);
        Checks.due("answer of shuffle(" + seed + ")", number, Checks.numberOf(owners));
        Checks.due("number() behind it", x.number(), number);
        Checks.due("phase() behind it", x.phase(), 1);
        Checks.due("turn() behind it", x.turn(), dealer);
        Checks.due("the same deal by its number", ownersOf(number), owners);
    }

    private static void refusedDeals() {
        ShortBridge fresh = new ShortBridge();
        refuseDeals(fresh);
        Checks.due("phase() behind refused deals", fresh.phase(), 0);
        ShortBridge x = playing();
        refuseDeals(x);
        Checks.due("edges that are taken", x.deal(LAST, 3, 3) && x.deal(0, 0, 0), true);
    }

    private static void refuseDeals(ShortBridge x) {
        String before = Checks.snapshot(x);
        Checks.due("deal(-1, 0, 0)", x.deal(-1, 0, 0), false);
        Checks.due("deal(LAST + 1, 0, 0)", x.deal(LAST + 1, 0, 0), false);
        Checks.due("deal(MIN, 0, 0)", x.deal(Long.MIN_VALUE, 0, 0), false);
        Checks.due("deal(MAX, 0, 0)", x.deal(Long.MAX_VALUE, 0, 0), false);
        Checks.due("deal(0, -1, 0)", x.deal(0, -1, 0), false);
        Checks.due("deal(0, 4, 0)", x.deal(0, 4, 0), false);
        Checks.due("deal(0, MIN, 0)", x.deal(0, Integer.MIN_VALUE, 0), false);
        Checks.due("deal(0, 0, -1)", x.deal(0, 0, -1), false);
        Checks.due("deal(0, 0, 4)", x.deal(0, 0, 4), false);
        Checks.due("the object behind refused deals", Checks.snapshot(x), before);
    }

    private static void refusedShuffles() {
        ShortBridge x = playing();
        String before = Checks.snapshot(x);
        Checks.due("shuffle(1, -1, 0)", x.shuffle(1, -1, 0), -1);
        Checks.due("shuffle(1, 4, 0)", x.shuffle(1, 4, 0), -1);
        Checks.due("shuffle(1, 0, -1)", x.shuffle(1, 0, -1), -1);
        Checks.due("shuffle(1, 0, 4)", x.shuffle(1, 0, 4), -1);
        Checks.due("the object behind refused shuffles", Checks.snapshot(x), before);
    }

    private static void newBoardInPlaceOfAnother() {
        ShortBridge x = playing();
        Checks.due("deal in the play", x.deal(42, 3, 2), true);
        ShortBridge y = new ShortBridge();
        y.deal(42, 3, 2);
        Checks.due("hands", owners(x), owners(y));
        Checks.due("number()", x.number(), 42);
        Checks.due("phase()", x.phase(), 1);
        Checks.due("turn()", x.turn(), 3);
        Checks.due("contract(0)", x.contract(0), -1);
        Checks.due("tricks(0) and tricks(1)", x.tricks(0) + x.tricks(1), 0);
        Checks.due("table(0)", x.table(0), -1);
        Checks.due("back()", x.back(), false);
        Checks.due("results stay", x.points(0, 0), 0);
        Checks.calls(x, 0, 0, 0, 0);
        Checks.due("record()", x.record(), 2);
    }

    private static void hasOfNobodyAndNothing() {
        ShortBridge x = new ShortBridge();
        x.deal(0, 0, 0);
        Checks.due("has(0, 0)", x.has(0, 0), true);
        Checks.due("has(3, 19)", x.has(3, 19), true);
        Checks.due("has(1, 0)", x.has(1, 0), false);
        int[] no = {-1, 4, 20, 32, 64, Integer.MIN_VALUE, Integer.MAX_VALUE};
        for (int p : no) {
            for (int c = -1; c <= 20; c++) {
                Checks.due("has(" + p + ", " + c + ")", x.has(p, c), false);
            }
        }
        int[] noCards = {-1, -20, 20, 32, 52, Integer.MIN_VALUE, Integer.MAX_VALUE};
        for (int c : noCards) {
            for (int p = 0; p < 4; p++) {
                Checks.due("has(" + p + ", " + c + ")", x.has(p, c), false);
            }
        }
        Checks.calls(x, 3, 0, 0, 0);
        Checks.due("has(1, 7) before it is played", x.has(1, 7), true);
        x.play(7);
        Checks.due("has(1, 7) when it is played", x.has(1, 7), false);
        x.back();
        Checks.due("has(1, 7) when it is taken back", x.has(1, 7), true);
    }

    /** A board in its second trick, with a result. */
    private static ShortBridge playing() {
        ShortBridge x = new ShortBridge();
        x.deal(7, 2, 1);
        Checks.calls(x, 0, 0, 0, 0);
        x.record();
        x.deal(0, 1, 1);
        Checks.calls(x, 7, 0, 0, 0);
        Checks.plays(x, 10, 15, 0, 5, 11);
        return x;
    }

    private static String ownersOf(long number) {
        ShortBridge x = new ShortBridge();
        Checks.due("deal(" + number + ")", x.deal(number, 0, 0), true);
        Checks.due("number()", x.number(), number);
        return owners(x);
    }

    private static String owners(ShortBridge x) {
        StringBuilder s = new StringBuilder();
        for (int c = 0; c < 20; c++) {
            for (int p = 0; p < 4; p++) {
                if (x.has(p, c)) {
                    s.append(p);
                }
            }
        }
        return s.toString();
    }

    /** The row that follows in the order of the alphabet. */
    private static String next(String owners) {
        char[] row = owners.toCharArray();
        int i = row.length - 2;
        while (row[i] >= row[i + 1]) {
            i--;
        }
        int j = row.length - 1;
        while (row[j] <= row[i]) {
            j--;
        }
        char kept = row[i];
        row[i] = row[j];
        row[j] = kept;
        String tail = new StringBuilder(new String(row, i + 1, row.length - i - 1)).reverse().toString();
        return new String(row, 0, i + 1) + tail;
    }

    private static String shuffled(long seed) {
        int[] row = new int[20];
        for (int i = 0; i < 20; i++) {
            row[i] = i;
        }
        BigInteger h = BigInteger.valueOf(seed);
        for (int i = 19; i >= 1; i--) {
            h = h.multiply(new BigInteger("6364136223846793005")).add(new BigInteger("1442695040888963407"));
            h = h.mod(BigInteger.ONE.shiftLeft(64));
            int j = h.shiftRight(33).mod(BigInteger.valueOf(i + 1)).intValue();
            int kept = row[i];
            row[i] = row[j];
            row[j] = kept;
        }
        char[] owners = new char[20];
        for (int i = 0; i < 20; i++) {
            owners[row[i]] = (char) ('0' + i / 5);
        }
        return new String(owners);
    }
}
