/** Promises 14 to 18: score, solve, record, points, places. */
public final class ResultPromisesTest {
    private static final int[] NO_RESULTS_OF_TWO = {-1, 2, 3, 11, 12, Integer.MIN_VALUE, Integer.MAX_VALUE};

    public static void main(String[] args) {
        promise14();
        promise15();
        promise16();
        promise17();
        promise18();
        Checks.end("ResultPromisesTest");
    }

    private static void promise14() {
        Checks.sentence("Promise 14: The score of side 0.", ResultPromisesTest::scoreOfSide0);
        Checks.sentence("Promise 14: IllegalStateException: the board is not over", ResultPromisesTest::noScore);
    }

    private static void promise15() {
        Checks.sentence("Promise 15: The tricks of declarer's side, solved.", ResultPromisesTest::solvedForDeclarer);
        Checks.sentence("Promise 15: (the board stays as it is)", ResultPromisesTest::solvedAlone);
        Checks.sentence("Promise 15: IllegalStateException: there is no play", ResultPromisesTest::noPlay);
        Checks.sentence("Promise 15: UnsupportedOperationException: some player has 5 cards", ResultPromisesTest::fiveCards);
    }

    private static void promise16() {
        Checks.sentence("Promise 16: The board's score and number come behind the results", ResultPromisesTest::behindTheResults);
        Checks.sentence("Promise 16: (also if it was recorded before", ResultPromisesTest::recordedBefore);
        Checks.sentence("Promise 16: back() takes no result away)", ResultPromisesTest::backTakesNoResult);
        Checks.sentence("Promise 16: Answers how many there are.", ResultPromisesTest::howMany);
        Checks.sentence("Promise 16: IllegalStateException: the board is not over", ResultPromisesTest::noRecord);
        Checks.sentence("Promise 16: UnsupportedOperationException: there are 12", ResultPromisesTest::thereAreTwelve);
    }

    private static void promise17() {
        Checks.sentence("Promise 17: The score of result i less that of result j, in points.", ResultPromisesTest::pointsOfResults);
        Checks.sentence("Promise 17: IndexOutOfBoundsException: there is no such result", ResultPromisesTest::noPoints);
    }

    private static void promise18() {
        Checks.sentence("Promise 18: For each other result", ResultPromisesTest::otherResults);
        Checks.sentence("Promise 18: of the same number", ResultPromisesTest::sameNumber);
        Checks.sentence("Promise 18: 2, if its score is less than that of result i, 1, if it is the same, in all",
            ResultPromisesTest::lessOrTheSame);
        Checks.sentence("Promise 18: IndexOutOfBoundsException: there is no such result", ResultPromisesTest::noPlaces);
    }

    private static void scoreOfSide0() {
        Checks.due("score() without a contract", Boards.passedOut().score(), 0);
        Checks.due("score() when side 0 makes it", Boards.playedOut(0, 3).score(), 110);
        Checks.due("score() when side 1 makes it", Boards.playedOut(1, 4).score(), -110);
        Checks.due("score() when side 0 fails", Boards.playedOut(0, 4).score(), -150);
        Checks.due("score() when side 1 fails", Boards.playedOut(1, 3).score(), 150);
        ShortBridge x = Boards.playedOut(0, 3);
        x.back();
        Checks.playAny(x, 0);
        Checks.due("score() when the last card is played again", x.score(), 110);
    }

    private static void noScore() {
        ShortBridge x = new ShortBridge();
        refusedState("score() without a board", x, x::score);
        x.deal(0, 0, 3);
        for (int c : new int[] {3, 0, 0, 0}) {
            refusedState("score() in the auction", x, x::score);
            x.call(c);
        }
        for (int i = 0; i < 20; i++) {
            refusedState("score() behind " + i + " cards", x, x::score);
            Checks.playAny(x, 0);
        }
        Checks.due("score()", x.score(), 110);
        x.back();
        refusedState("score() when the last card is taken back", x, x::score);
        Boards.passOut(x, 0);
        x.back();
        refusedState("score() when the last pass is taken back", x, x::score);
    }

    private static void refusedState(String what, ShortBridge x, Checks.Action call) {
        Checks.refused(what, x, IllegalStateException.class, call);
    }

    /** In deal 0 side 0 has the trumps of suit 0, and takes all tricks as declarer's side or as the other one. */
    private static void solvedForDeclarer() {
        for (int declarer = 0; declarer < 4; declarer++) {
            ShortBridge x = Boards.playing(Boards.WHOLE_SUITS, declarer, 3);
            for (int i = 0; i < 4; i++) {
                Checks.playAny(x, 0);
            }
            Checks.due("solve() of " + declarer, x.solve(), declarer % 2 == 0 ? 5 : 0);
        }
        // The last bidder is not the declarer, but of the same side.
        ShortBridge x = new ShortBridge();
        x.deal(0, 0, 0);
        Checks.calls(x, 3, 0, 8, 0, 0, 0);
        Checks.plays(x, 5, 10, 15, 0);
        Checks.due("solve() of the first to bid the strain", x.solve(), 5);
    }

    private static void solvedAlone() {
        ShortBridge x = Boards.playing(Boards.ROUND, 0, 7, 1, 2, 3, 4);
        while (x.phase() == 2) {
            String before = Checks.snapshot(x);
            int first = x.solve();
            Checks.due("the board behind solve()", Checks.snapshot(x), before);
            Checks.due("solve() again", x.solve(), first);
            Checks.playAny(x, 0);
        }
    }

    private static void noPlay() {
        ShortBridge none = new ShortBridge();
        refusedState("solve() without a board", none, none::solve);
        ShortBridge auction = Boards.auction(0);
        refusedState("solve() without a call", auction, auction::solve);
        Checks.calls(auction, 3, 0, 0);
        refusedState("solve() before the last pass", auction, auction::solve);
        ShortBridge passedOut = Boards.passedOut();
        refusedState("solve() without a contract", passedOut, passedOut::solve);
        ShortBridge over = Boards.playedOut(0, 3);
        refusedState("solve() when it is over", over, over::solve);
        over.back();
        Checks.due("solve() when the last card is taken back", over.solve(), 5);
    }

    private static void fiveCards() {
        ShortBridge x = Boards.playing(Boards.ROUND, 0, 7);
        for (int c = 1; c <= 4; c++) {
            Checks.refused("solve() behind " + (c - 1) + " cards", x, UnsupportedOperationException.class, x::solve);
            x.play(c);
        }
        Checks.due("solve() with 4 cards each", x.solve() >= 1, true);
        x.back();
        Checks.refused("solve() when one has 5 again", x, UnsupportedOperationException.class, x::solve);
        Checks.plays(x, 4, 0);
        Checks.due("solve() with 3 and 4 cards", x.solve() >= 1, true);
    }

    private static void behindTheResults() {
        ShortBridge x = new ShortBridge();
        Boards.passOut(x, 0);
        x.record();
        Boards.playOut(x, 0, 15, 0, 0);
        x.record();
        Boards.passOut(x, Boards.LAST_DEAL);
        x.record();
        // The scores are 0, 540 and 0, the numbers 0, 0 and the last one.
        Checks.due("points(1, 0)", x.points(1, 0), 11);
        Checks.due("points(2, 0)", x.points(2, 0), 0);
        Checks.due("places(0)", x.places(0), 0);
        Checks.due("places(1)", x.places(1), 2);
        Checks.due("places(2)", x.places(2), 0);
        // The number of a shuffled board is recorded too.
        long number = x.shuffle(5, 0, 0);
        Checks.calls(x, 0, 0, 0, 0);
        x.record();
        Boards.passOut(x, number);
        x.record();
        Checks.due("places(3)", x.places(3), 1);
        Checks.due("places(4)", x.places(4), 1);
    }

    private static void recordedBefore() {
        ShortBridge x = Boards.passedOut();
        Checks.due("record()", x.record(), 1);
        Checks.due("record() again", x.record(), 2);
        Checks.due("places(0)", x.places(0), 1);
        Checks.due("places(1)", x.places(1), 1);
    }

    private static void backTakesNoResult() {
        ShortBridge x = Boards.passedOut();
        x.record();
        x.record();
        Checks.due("back()", x.back(), true);
        Checks.due("places(1) behind back()", x.places(1), 1);
        x.call(0);
        Checks.due("record() once more", x.record(), 3);
        Boards.playOut(x, 0, 3, 0, 0);
        x.record();
        while (x.back()) {
            Checks.due("points(3, 0) behind back()", x.points(3, 0), 3);
        }
        Boards.playAll(x);
        Checks.due("record() of the board played again", x.record(), 5);
    }

    private static void howMany() {
        ShortBridge x = new ShortBridge();
        for (int i = 1; i <= 12; i++) {
            Boards.passOut(x, i);
            Checks.due("record()", x.record(), i);
        }
    }

    private static void noRecord() {
        ShortBridge x = new ShortBridge();
        refusedState("record() without a board", x, x::record);
        x.deal(0, 0, 0);
        for (int c : new int[] {3, 0, 0, 0}) {
            refusedState("record() in the auction", x, x::record);
            x.call(c);
        }
        for (int i = 0; i < 20; i++) {
            refusedState("record() behind " + i + " cards", x, x::record);
            Checks.playAny(x, 0);
        }
        Checks.due("record()", x.record(), 1);
        x.back();
        refusedState("record() when the last card is taken back", x, x::record);
    }

    private static void thereAreTwelve() {
        ShortBridge x = Boards.passedOut();
        for (int i = 1; i <= 12; i++) {
            Checks.due("record()", x.record(), i);
        }
        Checks.refused("record() with 12", x, UnsupportedOperationException.class, x::record);
        Checks.due("places(11)", x.places(11), 11);
        Boards.playOut(x, 0, 17, 2, 3);
        Checks.refused("record() of another board", x, UnsupportedOperationException.class, x::record);
        Checks.due("points(11, 0)", x.points(11, 0), 0);
    }

    private static void pointsOfResults() {
        ShortBridge x = new ShortBridge();
        Boards.playOut(x, 0, 3, 0, 0);
        x.record();
        Boards.playOut(x, 0, 15, 0, 0);
        x.record();
        Boards.playOut(x, 1, 16, 2, 3);
        x.record();
        Boards.passOut(x, 3);
        x.record();
        Checks.due("110 less 540", x.points(0, 1), -10);
        Checks.due("540 less 110", x.points(1, 0), 10);
        Checks.due("540 less -1560", x.points(1, 2), 19);
        Checks.due("110 less 0", x.points(0, 3), 3);
        Checks.due("-1560 less 0", x.points(2, 3), -17);
        for (int i = 0; i < 4; i++) {
            Checks.due("points(" + i + ", " + i + ")", x.points(i, i), 0);
        }
    }

    private static void noPoints() {
        ShortBridge x = withTwoResults();
        for (int no : NO_RESULTS_OF_TWO) {
            Checks.refused("points(" + no + ", 0)", x, IndexOutOfBoundsException.class, () -> x.points(no, 0));
            Checks.refused("points(1, " + no + ")", x, IndexOutOfBoundsException.class, () -> x.points(1, no));
            Checks.refused("points(" + no + ", " + no + ")", x, IndexOutOfBoundsException.class, () -> x.points(no, no));
        }
        Checks.due("points(1, 0)", x.points(1, 0), 0);
        ShortBridge full = withTwelveResults();
        Checks.due("points(11, 0)", full.points(11, 0), 0);
        Checks.refused("points(12, 0)", full, IndexOutOfBoundsException.class, () -> full.points(12, 0));
        Checks.refused("points(0, 12)", full, IndexOutOfBoundsException.class, () -> full.points(0, 12));
    }

    private static ShortBridge withTwoResults() {
        ShortBridge x = Boards.passedOut();
        x.record();
        x.record();
        return x;
    }

    private static ShortBridge withTwelveResults() {
        ShortBridge x = Boards.passedOut();
        for (int i = 0; i < 12; i++) {
            x.record();
        }
        return x;
    }

    private static void otherResults() {
        ShortBridge x = Boards.passedOut();
        for (int n = 0; n < 12; n++) {
            x.record();
            for (int i = 0; i <= n; i++) {
                Checks.due("places(" + i + ") of " + (n + 1), x.places(i), n);
            }
        }
    }

    private static void sameNumber() {
        ShortBridge x = new ShortBridge();
        // The last two numbers are the same in their lower half.
        for (long number : new long[] {0, 1, Boards.LAST_DEAL, Boards.LAST_DEAL - (1L << 32)}) {
            Boards.passOut(x, number);
            x.record();
        }
        for (int i = 0; i < 4; i++) {
            Checks.due("places(" + i + ")", x.places(i), 0);
        }
        Boards.passOut(x, 1);
        x.record();
        Checks.due("places(1)", x.places(1), 1);
        Checks.due("places(4)", x.places(4), 1);
        Checks.due("places(0)", x.places(0), 0);
    }

    private static void lessOrTheSame() {
        ShortBridge x = new ShortBridge();
        Boards.playOut(x, 0, 3, 0, 0);
        x.record();
        Boards.playOut(x, 0, 15, 0, 0);
        x.record();
        Boards.playOut(x, 2, 15, 0, 2);
        x.record();
        Boards.passOut(x, 0);
        x.record();
        Boards.playOut(x, 1, 4, 0, 0);
        x.record();
        // The scores are 110, 540, 540, 0 and -110.
        int[] due = {4, 7, 7, 2, 0};
        for (int i = 0; i < 5; i++) {
            Checks.due("places(" + i + ")", x.places(i), due[i]);
        }
        mostPlaces();
    }

    /** One good result and eleven bad ones: 22 is the most that can be. */
    private static void mostPlaces() {
        ShortBridge x = new ShortBridge();
        Boards.passOut(x, 0);
        x.record();
        Boards.playOut(x, 0, 4, 0, 0);
        for (int i = 0; i < 11; i++) {
            x.record();
        }
        Checks.due("places(0)", x.places(0), 22);
        Checks.due("places(11)", x.places(11), 10);
    }

    private static void noPlaces() {
        ShortBridge x = withTwoResults();
        for (int no : NO_RESULTS_OF_TWO) {
            Checks.refused("places(" + no + ")", x, IndexOutOfBoundsException.class, () -> x.places(no));
        }
        Checks.due("places(1)", x.places(1), 1);
        ShortBridge full = withTwelveResults();
        Checks.due("places(11)", full.places(11), 11);
        Checks.refused("places(12)", full, IndexOutOfBoundsException.class, () -> full.places(12));
    }
}
