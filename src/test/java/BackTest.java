import java.util.ArrayDeque;
import java.util.Deque;
import java.util.Random;

/** Promise 10, back. */
public final class BackTest {
    public static void main(String[] args) {
        nothingToTakeBack();
        lastPass();
        notIntoTheAuction();
        throughTheAuction();
        throughThePlay();
        anotherWayOn();
        Checks.end("BackTest");
    }

    private static void nothingToTakeBack() {
        ShortBridge x = new ShortBridge();
        refusedBack(x);
        x.deal(9, 1, 0);
        refusedBack(x);
        x.call(3);
        Checks.due("back() of the only call", x.back(), true);
        refusedBack(x);
    }

    private static void refusedBack(ShortBridge x) {
        String before = Checks.snapshot(x);
        Checks.due("back()", x.back(), false);
        Checks.due("the board behind it", Checks.snapshot(x), before);
    }

    private static void lastPass() {
        ShortBridge x = new ShortBridge();
        x.deal(9, 1, 0);
        Checks.calls(x, 0, 0, 0);
        String before = Checks.snapshot(x);
        x.call(0);
        Checks.due("phase()", x.phase(), 3);
        Checks.due("record()", x.record(), 1);
        Checks.due("back()", x.back(), true);
        Checks.due("phase()", x.phase(), 1);
        Checks.due("the result stays", x.points(0, 0), 0);
        Checks.due("what it was before", Checks.snapshot(x).split(" results")[0], before.split(" results")[0]);
        x.call(4);
        Checks.due("declarer", x.contract(2), 0);
    }

    private static void notIntoTheAuction() {
        ShortBridge x = new ShortBridge();
        x.deal(0, 0, 0);
        Checks.calls(x, 3, 0, 0);
        Checks.due("back() of the second pass", x.back(), true);
        Checks.calls(x, 0, 0);
        refusedBack(x);
        x.play(5);
        Checks.due("back() of the first card", x.back(), true);
        Checks.due("phase()", x.phase(), 2);
        Checks.due("turn()", x.turn(), 1);
        refusedBack(x);
    }

    private static void throughTheAuction() {
        Random random = new Random(4);
        for (int i = 0; i < 300; i++) {
            ShortBridge x = shuffled(random);
            Deque<String> states = new ArrayDeque<>();
            int calls = 1 + random.nextInt(12);
            for (int n = 0; n < calls && x.phase() == 1; n++) {
                states.push(Checks.snapshot(x));
                callAny(x, i % 10 == 0 ? 0 : random.nextInt(18));
            }
            if (x.phase() != 2) {
                backThrough(x, states);
            }
            refusedBack(x);
        }
    }

    private static void throughThePlay() {
        Random random = new Random(5);
        for (int i = 0; i < 100; i++) {
            ShortBridge x = shuffled(random);
            Checks.calls(x, 3 + random.nextInt(15), 0, 0, 0);
            Deque<String> states = new ArrayDeque<>();
            for (int n = 0; n < 20; n++) {
                states.push(Checks.snapshot(x));
                Checks.playAny(x, random.nextInt(20));
            }
            Checks.due("phase()", x.phase(), 3);
            backThrough(x, states);
            refusedBack(x);
        }
    }

    private static ShortBridge shuffled(Random random) {
        ShortBridge x = new ShortBridge();
        x.shuffle(random.nextLong(), random.nextInt(4), random.nextInt(4));
        return x;
    }

    private static void callAny(ShortBridge x, int c) {
        if (!Checks.answer(() -> x.call(c)).equals("nothing")) {
            x.call(0);
        }
    }

    private static void backThrough(ShortBridge x, Deque<String> states) {
        while (!states.isEmpty()) {
            Checks.due("back()", x.back(), true);
            Checks.due("the state before", Checks.snapshot(x), states.pop());
        }
    }

    /** What was taken back leaves nothing behind when the board goes on another way. */
    private static void anotherWayOn() {
        ShortBridge x = new ShortBridge();
        x.deal(Checks.numberOf("01230123012301230123"), 0, 0);
        Checks.calls(x, 7, 0, 0, 0);
        Checks.plays(x, 1, 2, 3, 4);
        Checks.due("turn()", x.turn(), 0);
        Checks.due("tricks(0)", x.tricks(0), 1);
        Checks.due("back()", x.back(), true);
        Checks.due("turn()", x.turn(), 0);
        Checks.due("tricks(0)", x.tricks(0), 0);
        Checks.due("table(2)", x.table(2), 3);
        x.play(0);
        Checks.due("turn()", x.turn(), 3);
        Checks.due("tricks(1)", x.tricks(1), 1);
        ShortBridge y = new ShortBridge();
        y.deal(5, 2, 0);
        Checks.calls(y, 3, 1, 2);
        Checks.due("back() of a redouble", y.back() && y.contract(1) == 1, true);
        Checks.due("back() of a double", y.back() && y.contract(1) == 0, true);
        Checks.due("back() of a bid", y.back() && y.contract(0) == -1, true);
        y.call(0);
        y.call(3);
        Checks.due("declarer", y.contract(2), 3);
    }
}
