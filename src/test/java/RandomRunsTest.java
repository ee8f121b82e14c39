import java.util.Random;

/** All promises: runs of calls made by chance, each answer compared with that of the model. */
public final class RandomRunsTest {
    private static final int RUNS = 400;
    private static final int CALLS = 512;
    private static final long LAST = 11732745023L;

    private final Random random;
    private final ShortBridge x = new ShortBridge();
    private final Model m = new Model();
    private int dearSolvesLeft = 2;

    private RandomRunsTest(int seed) {
        random = new Random(seed);
    }

    public static void main(String[] args) {
        for (int seed = 0; seed < RUNS; seed++) {
            RandomRunsTest run = new RandomRunsTest(seed);
            for (int i = 0; i < CALLS; i++) {
                run.step("run " + seed + ", call " + i + ": ");
            }
        }
        Checks.end("RandomRunsTest");
    }

    private void step(String where) {
        int kind = random.nextInt(100);
        if (kind < 2 || x.phase() == 0 || x.phase() == 3 && kind < 12) {
            begin(where);
        } else if (kind < 50) {
            goOn(where);
        } else if (kind < 55) {
            Checks.due(where + "back()", x.back(), m.back());
        } else if (kind < 65) {
            results(where);
        } else {
            ask(where);
        }
    }

    private void begin(String where) {
        int dealer = few(4);
        int vulnerable = few(4);
        if (random.nextBoolean()) {
            long seed = random.nextInt(4) == 0 ? random.nextInt(3) : random.nextLong();
            Checks.due(where + "shuffle(" + seed + ", " + dealer + ", " + vulnerable + ")",
                x.shuffle(seed, dealer, vulnerable), m.shuffle(seed, dealer, vulnerable));
            return;
        }
        long[] edges = {0, 1, -1, LAST, LAST + 1, Long.MIN_VALUE, Long.MAX_VALUE};
        long number = random.nextInt(4) == 0 ? edges[random.nextInt(7)] : (long) (random.nextDouble() * LAST);
        Checks.due(where + "deal(" + number + ", " + dealer + ", " + vulnerable + ")",
            x.deal(number, dealer, vulnerable), m.deal(number, dealer, vulnerable));
    }

    private void goOn(String where) {
        if (random.nextInt(20) == 0 ^ x.phase() == 1) {
            int c = random.nextInt(3) == 0 ? few(18) : random.nextInt(5) < 3 ? 0 : random.nextInt(10);
            Checks.due(where + "call(" + c + ")", Checks.answer(() -> x.call(c)), Checks.answer(() -> m.call(c)));
            return;
        }
        int from = few(20);
        int c = random.nextInt(4) == 0 ? from : ownCard(from);
        Checks.due(where + "play(" + c + ")", Checks.answer(() -> x.play(c)), Checks.answer(() -> m.play(c)));
    }

    private int ownCard(int from) {
        for (int i = 0; i < 20; i++) {
            int c = Math.floorMod(from + i, 20);
            if (x.has(x.turn(), c)) {
                return c;
            }
        }
        return from;
    }

    private void results(String where) {
        int i = few(4);
        int j = few(4);
        switch (random.nextInt(4)) {
            case 0:
                Checks.due(where + "record()", Checks.answer(x::record), Checks.answer(m::record));
                break;
            case 1:
                Checks.due(where + "score()", Checks.answer(x::score), Checks.answer(m::score));
                break;
            case 2:
                Checks.due(where + "points(" + i + ", " + j + ")",
                    Checks.answer(() -> x.points(i, j)), answerOfResult(() -> m.points(i, j)));
                break;
            default:
                Checks.due(where + "places(" + i + ")",
                    Checks.answer(() -> x.places(i)), answerOfResult(() -> m.places(i)));
                break;
        }
    }

    private static String answerOfResult(java.util.concurrent.Callable<?> call) {
        String answer = Checks.answer(call);
        return answer.startsWith("throws ") ? "throws IndexOutOfBoundsException" : answer;
    }

    private void ask(String where) {
        int a = few(4);
        int c = few(20);
        switch (random.nextInt(9)) {
            case 0:
                Checks.due(where + "number()", x.number(), m.number());
                break;
            case 1:
                Checks.due(where + "phase()", x.phase(), m.phase());
                break;
            case 2:
                Checks.due(where + "turn()", x.turn(), m.turn());
                break;
            case 3:
                Checks.due(where + "has(" + a + ", " + c + ")", x.has(a, c), m.has(a, c));
                break;
            case 4:
                Checks.due(where + "contract(" + a + ")", x.contract(a), m.contract(a));
                break;
            case 5:
                Checks.due(where + "tricks(" + a + ")", x.tricks(a), m.tricks(a));
                break;
            case 6:
            case 7:
                Checks.due(where + "table(" + a + ")", x.table(a), m.table(a));
                break;
            default:
                solve(where);
                break;
        }
    }

    private void solve(String where) {
        // The model tries every way to play, which is dear while the hands are long.
        boolean isDear = x.phase() == 2 && x.tricks(0) + x.tricks(1) == 1;
        if (isDear && dearSolvesLeft == 0) {
            return;
        }
        dearSolvesLeft -= isDear ? 1 : 0;
        Checks.due(where + "solve()", Checks.answer(x::solve), Checks.answer(m::solve));
    }

    /** A number from 0 to n - 1, or now and then one beside them. */
    private int few(int n) {
        int[] beside = {-1, n, Integer.MIN_VALUE, Integer.MAX_VALUE};
        return random.nextInt(15) == 0 ? beside[random.nextInt(4)] : random.nextInt(n);
    }
}
