import java.util.NoSuchElementException;

/** Terms: calls that throw or are refused. */
public final class RefusalTermsTest {
    private static final String FIRST_NAMED = "When a call throws, the exception named first is the one if several would do. ";
    private static final String NOTHING = "A call that throws, or is refused, changes nothing. ";

    public static void main(String[] args) {
        Checks.sentence(FIRST_NAMED + "(call)", RefusalTermsTest::firstNamedByCall);
        Checks.sentence(FIRST_NAMED + "(play)", RefusalTermsTest::firstNamedByPlay);
        Checks.sentence(FIRST_NAMED + "(solve)", RefusalTermsTest::firstNamedBySolve);
        Checks.sentence(FIRST_NAMED + "(record)", RefusalTermsTest::firstNamedByRecord);
        Checks.sentence(NOTHING + "(without a board)", RefusalTermsTest::withoutBoard);
        Checks.sentence(NOTHING + "(in the auction)", RefusalTermsTest::inTheAuction);
        Checks.sentence(NOTHING + "(in the play)", RefusalTermsTest::inThePlay);
        Checks.sentence(NOTHING + "(when the board is over)", RefusalTermsTest::whenItIsOver);
        Checks.sentence(NOTHING + "(what follows is as if it had not been)", RefusalTermsTest::asIfItHadNotBeen);
        Checks.end("RefusalTermsTest");
    }

    /** No auction comes before no call, and no call before what is not allowed. */
    private static void firstNamedByCall() {
        ShortBridge none = new ShortBridge();
        ShortBridge playing = Boards.playing(Boards.ROUND, 0, 17);
        ShortBridge passedOut = Boards.passedOut();
        for (ShortBridge x : new ShortBridge[] {none, playing, passedOut}) {
            Checks.refused("call(18)", x, IllegalStateException.class, () -> x.call(18));
            Checks.refused("call(-1)", x, IllegalStateException.class, () -> x.call(-1));
            Checks.refused("call(2)", x, IllegalStateException.class, () -> x.call(2));
            Checks.refused("call(3)", x, IllegalStateException.class, () -> x.call(3));
        }
        ShortBridge x = Boards.auction(0, 17);
        Checks.refused("call(-1)", x, IllegalArgumentException.class, () -> x.call(-1));
        Checks.refused("call(18)", x, IllegalArgumentException.class, () -> x.call(18));
        Checks.refused("call(17)", x, UnsupportedOperationException.class, () -> x.call(17));
    }

    /** No play comes before no card, and a card that the player does not have before one of another suit. */
    private static void firstNamedByPlay() {
        ShortBridge none = new ShortBridge();
        ShortBridge auction = Boards.auction(0);
        ShortBridge over = Boards.playedOut(0, 3);
        for (ShortBridge x : new ShortBridge[] {none, auction, over}) {
            Checks.refused("play(20)", x, IllegalStateException.class, () -> x.play(20));
            Checks.refused("play(-1)", x, IllegalStateException.class, () -> x.play(-1));
            Checks.refused("play(0)", x, IllegalStateException.class, () -> x.play(0));
        }
        // Player 2 has 2 of the suit, and 6, but neither 5 nor 7.
        ShortBridge x = Boards.playing(Boards.ROUND, 0, 7, 1);
        Checks.refused("play(5)", x, NoSuchElementException.class, () -> x.play(5));
        Checks.refused("play(7)", x, NoSuchElementException.class, () -> x.play(7));
        Checks.refused("play(20)", x, NoSuchElementException.class, () -> x.play(20));
        Checks.refused("play(6)", x, UnsupportedOperationException.class, () -> x.play(6));
    }

    /** In the auction, and without a contract, there is no play, and all players have 5 cards too. */
    private static void firstNamedBySolve() {
        ShortBridge auction = Boards.auction(0, 3);
        Checks.refused("solve() in the auction", auction, IllegalStateException.class, auction::solve);
        ShortBridge passedOut = Boards.passedOut();
        Checks.refused("solve() without a contract", passedOut, IllegalStateException.class, passedOut::solve);
        ShortBridge playing = Boards.playing(Boards.ROUND, 0, 7);
        Checks.refused("solve() in the play", playing, UnsupportedOperationException.class, playing::solve);
    }

    private static void firstNamedByRecord() {
        ShortBridge x = withTwelveResults();
        Checks.refused("record() when it is over", x, UnsupportedOperationException.class, x::record);
        x.back();
        Checks.refused("record() in the auction", x, IllegalStateException.class, x::record);
        x.deal(0, 0, 0);
        Checks.calls(x, 3, 0, 0, 0);
        Checks.refused("record() in the play", x, IllegalStateException.class, x::record);
    }

    private static ShortBridge withTwelveResults() {
        ShortBridge x = Boards.passedOut();
        for (int i = 0; i < 12; i++) {
            x.record();
        }
        return x;
    }

    private static void withoutBoard() {
        ShortBridge x = new ShortBridge();
        refuseArguments(x);
        refuseState(x, "call(0)", () -> x.call(0));
        refuseState(x, "play(0)", () -> x.play(0));
        refuseState(x, "score()", x::score);
        refuseState(x, "solve()", x::solve);
        refuseState(x, "record()", x::record);
        String before = Checks.snapshot(x);
        Checks.due("back()", x.back(), false);
        Checks.due("the object behind back()", Checks.snapshot(x), before);
    }

    private static void inTheAuction() {
        ShortBridge x = Boards.passedOut();
        x.record();
        x.deal(5, 3, 1);
        Checks.calls(x, 4, 1);
        refuseArguments(x);
        refuseState(x, "play(0)", () -> x.play(0));
        refuseState(x, "score()", x::score);
        refuseState(x, "solve()", x::solve);
        refuseState(x, "record()", x::record);
        Checks.refused("call(18)", x, IllegalArgumentException.class, () -> x.call(18));
        Checks.refused("call(4)", x, UnsupportedOperationException.class, () -> x.call(4));
        Checks.refused("call(1)", x, UnsupportedOperationException.class, () -> x.call(1));
        Checks.due("call(2)", Checks.answer(() -> x.call(2)), "nothing");
    }

    private static void inThePlay() {
        ShortBridge x = Boards.passedOut();
        x.record();
        x.deal(Checks.numberOf(Boards.ROUND), 0, 1);
        Checks.calls(x, 7, 0, 0, 0);
        String before = Checks.snapshot(x);
        Checks.due("back() before the first card", x.back(), false);
        Checks.due("the object behind back()", Checks.snapshot(x), before);
        x.play(1);
        refuseArguments(x);
        refuseState(x, "call(0)", () -> x.call(0));
        refuseState(x, "score()", x::score);
        refuseState(x, "record()", x::record);
        Checks.refused("solve()", x, UnsupportedOperationException.class, x::solve);
        Checks.refused("play(3)", x, NoSuchElementException.class, () -> x.play(3));
        Checks.refused("play(6)", x, UnsupportedOperationException.class, () -> x.play(6));
        Checks.due("play(2)", Checks.answer(() -> x.play(2)), "nothing");
    }

    private static void whenItIsOver() {
        ShortBridge x = Boards.playedOut(0, 3);
        for (int i = 0; i < 12; i++) {
            x.record();
        }
        refuseArguments(x);
        refuseState(x, "call(0)", () -> x.call(0));
        refuseState(x, "play(0)", () -> x.play(0));
        refuseState(x, "solve()", x::solve);
        Checks.refused("record()", x, UnsupportedOperationException.class, x::record);
    }

    private static void refuseState(ShortBridge x, String what, Checks.Action call) {
        Checks.refused(what, x, IllegalStateException.class, call);
    }

    /** Those calls that no state makes good. */
    private static void refuseArguments(ShortBridge x) {
        String before = Checks.snapshot(x);
        Checks.due("deal(-1, 0, 0)", x.deal(-1, 0, 0), false);
        Checks.due("deal(11732745024, 0, 0)", x.deal(11732745024L, 0, 0), false);
        Checks.due("deal(0, 4, 0)", x.deal(0, 4, 0), false);
        Checks.due("deal(0, 0, 4)", x.deal(0, 0, 4), false);
        Checks.due("shuffle(0, -1, 0)", x.shuffle(0, -1, 0), -1);
        Checks.due("shuffle(0, 0, -1)", x.shuffle(0, 0, -1), -1);
        Checks.due("the object behind deals and shuffles", Checks.snapshot(x), before);
        Checks.refused("points(0, 12)", x, IndexOutOfBoundsException.class, () -> x.points(0, 12));
        Checks.refused("places(-1)", x, IndexOutOfBoundsException.class, () -> x.places(-1));
    }

    /** Two objects go the same way, one of them with a refused call before each step. */
    private static void asIfItHadNotBeen() {
        ShortBridge plain = new ShortBridge();
        ShortBridge refused = new ShortBridge();
        for (ShortBridge x : new ShortBridge[] {plain, refused}) {
            x.deal(Checks.numberOf(Boards.ROUND), 2, 2);
        }
        for (int c : new int[] {0, 4, 1, 2, 0, 0, 7, 1, 0, 0, 0}) {
            plain.call(c);
            refuseAll(refused);
            refused.call(c);
            Checks.due("the state behind call " + c, Checks.snapshot(refused), Checks.snapshot(plain));
        }
        while (plain.phase() == 2) {
            Checks.playAny(plain, 7);
            refuseAll(refused);
            Checks.playAny(refused, 7);
            Checks.due("the state behind a card", Checks.snapshot(refused), Checks.snapshot(plain));
        }
        Checks.due("record()", refused.record(), plain.record());
        while (plain.back()) {
            refuseAll(refused);
            Checks.due("back()", refused.back(), true);
            Checks.due("the state behind back()", Checks.snapshot(refused), Checks.snapshot(plain));
        }
    }

    private static void refuseAll(ShortBridge x) {
        refuseArguments(x);
        for (int c : new int[] {-1, 20, Integer.MIN_VALUE, Integer.MAX_VALUE}) {
            Checks.due("call(" + c + ")", Checks.answer(() -> x.call(c)).startsWith("throws "), true);
            Checks.due("play(" + c + ")", Checks.answer(() -> x.play(c)).startsWith("throws "), true);
        }
        Checks.due("points(-1, -1)", Checks.answer(() -> x.points(-1, -1)), "throws IndexOutOfBoundsException");
    }
}
