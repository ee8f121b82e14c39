import java.util.ArrayDeque;
import java.util.Deque;
import java.util.NoSuchElementException;
import java.util.Random;

/** Promises 8 to 13: call, play, back, contract, tricks, table. */
public final class MovePromisesTest {
    public static void main(String[] args) {
        promise8();
        promise9();
        promise10();
        promise11();
        promise12();
        promise13();
        Checks.end("MovePromisesTest");
    }

    private static void promise8() {
        Checks.sentence("Promise 8: The player whose turn it is calls.", MovePromisesTest::playerCalls);
        Checks.sentence("Promise 8: IllegalStateException: there is no auction", MovePromisesTest::noAuction);
        Checks.sentence("Promise 8: IllegalArgumentException: it is no call", MovePromisesTest::noCall);
        Checks.sentence("Promise 8: UnsupportedOperationException: it is not allowed", MovePromisesTest::callNotAllowed);
    }

    private static void promise9() {
        Checks.sentence("Promise 9: The player whose turn it is plays a card.", MovePromisesTest::playerPlays);
        Checks.sentence("Promise 9: IllegalStateException: there is no play", MovePromisesTest::noPlay);
        Checks.sentence("Promise 9: NoSuchElementException: that player does not have it", MovePromisesTest::cardNotHeld);
        Checks.sentence("Promise 9: (or it is no card)", MovePromisesTest::noCard);
        Checks.sentence("Promise 9: UnsupportedOperationException: it is not of the suit that was led,"
            + " and the player has one that is", MovePromisesTest::cardNotAllowed);
    }

    private static void promise10() {
        Checks.sentence("Promise 10: Takes back, in the auction the latest call", MovePromisesTest::latestCall);
        Checks.sentence("Promise 10: in the play the latest card", MovePromisesTest::latestCard);
        Checks.sentence("Promise 10: when the board is over its last card", MovePromisesTest::lastCard);
        Checks.sentence("Promise 10: or, without a contract, its last pass", MovePromisesTest::lastPass);
        Checks.sentence("Promise 10: Answers true", MovePromisesTest::backAgainAndAgain);
        Checks.sentence("Promise 10: false when there is none of these", MovePromisesTest::nothingToTakeBack);
        Checks.sentence("Promise 10: (in the play with no card played the auction is not gone back into)",
            MovePromisesTest::notIntoTheAuction);
        Checks.sentence("Promise 10: (what was taken back leaves nothing behind)", MovePromisesTest::anotherWayOn);
    }

    private static void promise11() {
        Checks.sentence("Promise 11: The contract: 0 the bid, 1 how often it is doubled, 2 the declarer",
            MovePromisesTest::contractOfThePlay);
        Checks.sentence("Promise 11: in the auction of what stands now", MovePromisesTest::contractOfTheAuction);
        Checks.sentence("Promise 11: NONE when there is no bid", MovePromisesTest::noBid);
        Checks.sentence("Promise 11: (or no board)", MovePromisesTest::noBoard);
        Checks.sentence("Promise 11: or what is another number", MovePromisesTest::anotherNumber);
    }

    private static void promise12() {
        Checks.sentence("Promise 12: How many tricks a side has", MovePromisesTest::tricksOfSides);
        Checks.sentence("Promise 12: (0 before the play, or without a board)", MovePromisesTest::tricksBeforeThePlay);
        Checks.sentence("Promise 12: NONE when there is no such side", MovePromisesTest::noSuchSide);
    }

    private static void promise13() {
        Checks.sentence("Promise 13: Card i (0 .. 3, in the order they were played) of the trick that is under way",
            MovePromisesTest::cardsUnderWay);
        Checks.sentence("Promise 13: (none behind its fourth card)", MovePromisesTest::behindTheFourthCard);
        Checks.sentence("Promise 13: NONE when there is none", MovePromisesTest::noCardOnTheTable);
    }

    private static void playerCalls() {
        ShortBridge x = Boards.auction(3);
        x.call(3);
        Checks.due("who bid", x.contract(2), 3);
        Checks.due("who is next", x.turn(), 0);
        x.call(4);
        Checks.due("who bid", x.contract(2), 0);
        Checks.due("who is next", x.turn(), 1);
    }

    private static void noAuction() {
        ShortBridge none = new ShortBridge();
        ShortBridge noCards = Boards.playing(Boards.ROUND, 0, 7);
        ShortBridge playing = Boards.playing(Boards.ROUND, 0, 7, 1, 2, 3, 4);
        for (ShortBridge x : new ShortBridge[] {none, noCards, playing, Boards.passedOut(), Boards.playedOut(0, 3)}) {
            for (int c = -1; c <= 18; c++) {
                int call = c;
                Checks.refused("call(" + c + ")", x, IllegalStateException.class, () -> x.call(call));
            }
        }
    }

    private static void noCall() {
        for (ShortBridge x : new ShortBridge[] {Boards.auction(0), Boards.auction(0, 3), Boards.auction(0, 17, 1, 2)}) {
            for (int c : new int[] {-1, 18, 19, 32, 100, Integer.MIN_VALUE, Integer.MAX_VALUE}) {
                Checks.refused("call(" + c + ")", x, IllegalArgumentException.class, () -> x.call(c));
            }
        }
    }

    private static void callNotAllowed() {
        ShortBridge first = Boards.auction(0);
        Checks.refused("call(1) first", first, UnsupportedOperationException.class, () -> first.call(1));
        Checks.refused("call(2) first", first, UnsupportedOperationException.class, () -> first.call(2));
        ShortBridge highest = Boards.auction(0, 17, 0);
        for (int c = 1; c <= 17; c++) {
            int call = c;
            Checks.refused("call(" + c + ")", highest, UnsupportedOperationException.class, () -> highest.call(call));
        }
        Checks.due("call(0)", Checks.answer(() -> highest.call(0)), "nothing");
    }

    private static void playerPlays() {
        ShortBridge x = Boards.playing(Boards.WHOLE_SUITS, 2, 3);
        x.play(17);
        Checks.due("has(3, 17)", x.has(3, 17), false);
        Checks.due("table(0)", x.table(0), 17);
        Checks.due("who is next", x.turn(), 0);
        x.play(2);
        Checks.due("has(0, 2)", x.has(0, 2), false);
        Checks.due("table(1)", x.table(1), 2);
    }

    private static void noPlay() {
        ShortBridge none = new ShortBridge();
        ShortBridge auction = Boards.auction(0, 3, 0, 0);
        for (ShortBridge x : new ShortBridge[] {none, auction, Boards.passedOut(), Boards.playedOut(0, 3)}) {
            for (int c = -1; c <= 20; c++) {
                int card = c;
                Checks.refused("play(" + c + ")", x, IllegalStateException.class, () -> x.play(card));
            }
        }
    }

    private static void cardNotHeld() {
        ShortBridge x = Boards.playing(Boards.ROUND, 0, 7);
        for (int c = 0; c < 20; c++) {
            int card = c;
            if (c % 4 != 1) {
                Checks.refused("card " + c + " of another", x, NoSuchElementException.class, () -> x.play(card));
            }
        }
        Checks.plays(x, 1, 2, 3, 4);
        Checks.refused("card 4 again", x, NoSuchElementException.class, () -> x.play(4));
        x.play(0);
        Checks.refused("card 1 again", x, NoSuchElementException.class, () -> x.play(1));
        Checks.refused("card 0 again", x, NoSuchElementException.class, () -> x.play(0));
    }

    private static void noCard() {
        // Player 1 has card 1 and others that 33 and 37 would be if only their last bits were looked at.
        ShortBridge x = Boards.playing(Boards.ROUND, 0, 7);
        for (int c : new int[] {-1, -19, -31, 20, 21, 25, 33, 37, 64, Integer.MIN_VALUE, Integer.MAX_VALUE}) {
            Checks.refused("play(" + c + ")", x, NoSuchElementException.class, () -> x.play(c));
        }
    }

    private static void cardNotAllowed() {
        ShortBridge x = Boards.playing(Boards.ROUND, 0, 6, 1);
        for (int c : new int[] {6, 10, 14, 18}) {
            Checks.refused("card " + c + " on 1", x, UnsupportedOperationException.class, () -> x.play(c));
        }
        Checks.plays(x, 2, 3, 0);
        // Suit 1 is led now, of which player 0 has 8.
        x.play(7);
        Checks.refused("card 4 on 7", x, UnsupportedOperationException.class, () -> x.play(4));
        Checks.due("card 8 on 7", Checks.answer(() -> x.play(8)), "nothing");
    }

    private static void latestCall() {
        ShortBridge x = Boards.auction(2, 3, 1, 2);
        Checks.due("back() of a redouble", x.back() && x.contract(1) == 1 && x.turn() == 0, true);
        Checks.due("back() of a double", x.back() && x.contract(1) == 0 && x.turn() == 3, true);
        Checks.due("back() of a bid", x.back() && x.contract(0) == -1 && x.turn() == 2, true);
        x.call(0);
        Checks.due("back() of a pass", x.back() && x.turn() == 2, true);
        ShortBridge y = Boards.auction(0, 3, 0, 0);
        Checks.due("back() of the second pass", y.back(), true);
        y.call(0);
        Checks.due("phase() behind the second pass again", y.phase(), 1);
    }

    private static void latestCard() {
        ShortBridge x = Boards.playing(Boards.ROUND, 0, 7, 1, 2, 3, 4, 0);
        Checks.due("back() of a lead", x.back(), true);
        stateDue(x, 0, 1, -1, -1);
        Checks.due("back() into the trick before", x.back(), true);
        stateDue(x, 0, 0, 1, 3);
        Checks.due("has(0, 4)", x.has(0, 4), true);
        Checks.due("back() of the third card", x.back(), true);
        stateDue(x, 3, 0, 1, -1);
        x.back();
        Checks.due("back() of the first card", x.back(), true);
        stateDue(x, 1, 0, -1, -1);
    }

    private static void stateDue(ShortBridge x, int turn, int tricks, int first, int third) {
        Checks.due("phase()", x.phase(), 2);
        Checks.due("turn()", x.turn(), turn);
        Checks.due("tricks(0)", x.tricks(0), tricks);
        Checks.due("table(0)", x.table(0), first);
        Checks.due("table(2)", x.table(2), third);
    }

    private static void lastCard() {
        ShortBridge x = Boards.playing(Boards.WHOLE_SUITS, 0, 3);
        for (int i = 0; i < 19; i++) {
            Checks.playAny(x, 0);
        }
        String before = Checks.snapshot(x);
        Checks.playAny(x, 0);
        Checks.due("phase()", x.phase(), 3);
        Checks.due("back()", x.back(), true);
        Checks.due("the board before its last card", Checks.snapshot(x), before);
        Checks.due("phase()", x.phase(), 2);
    }

    private static void lastPass() {
        ShortBridge x = Boards.auction(1, 0, 0, 0);
        String before = Checks.snapshot(x);
        x.call(0);
        Checks.due("phase()", x.phase(), 3);
        Checks.due("back()", x.back(), true);
        Checks.due("the board before its last pass", Checks.snapshot(x), before);
        Checks.due("phase()", x.phase(), 1);
        x.call(4);
        Checks.due("declarer", x.contract(2), 0);
    }

    private static void backAgainAndAgain() {
        Random random = new Random(5);
        for (int i = 0; i < 100; i++) {
            backThroughPlay(random);
            backThroughAuction(random, i % 10 == 0);
        }
    }

    private static void backThroughPlay(Random random) {
        ShortBridge x = shuffled(random);
        Checks.calls(x, 3 + random.nextInt(15), 0, 0, 0);
        Deque<String> states = new ArrayDeque<>();
        for (int n = 0; n < 20; n++) {
            states.push(Checks.snapshot(x));
            Checks.playAny(x, random.nextInt(20));
        }
        backThrough(x, states);
    }

    private static void backThroughAuction(Random random, boolean onlyPasses) {
        ShortBridge x = shuffled(random);
        Deque<String> states = new ArrayDeque<>();
        int calls = 1 + random.nextInt(12);
        for (int n = 0; n < calls && x.phase() == 1; n++) {
            states.push(Checks.snapshot(x));
            int c = onlyPasses ? 0 : random.nextInt(18);
            if (!Checks.answer(() -> x.call(c)).equals("nothing")) {
                x.call(0);
            }
        }
        if (x.phase() != 2) {
            backThrough(x, states);
        }
    }

    private static ShortBridge shuffled(Random random) {
        ShortBridge x = new ShortBridge();
        x.shuffle(random.nextLong(), random.nextInt(4), random.nextInt(4));
        return x;
    }

    private static void backThrough(ShortBridge x, Deque<String> states) {
        while (!states.isEmpty()) {
            Checks.due("back()", x.back(), true);
            Checks.due("the state before", Checks.snapshot(x), states.pop());
        }
        refusedBack(x);
    }

    private static void refusedBack(ShortBridge x) {
        String before = Checks.snapshot(x);
        Checks.due("back()", x.back(), false);
        Checks.due("the board behind it", Checks.snapshot(x), before);
    }

    private static void nothingToTakeBack() {
        ShortBridge x = new ShortBridge();
        refusedBack(x);
        x.deal(9, 1, 0);
        refusedBack(x);
        x.call(3);
        Checks.due("back() of the only call", x.back(), true);
        refusedBack(x);
        // A new board has nothing of the one before it.
        Checks.calls(x, 3, 0, 0, 0);
        Boards.playAll(x);
        x.deal(9, 1, 0);
        refusedBack(x);
        x.call(0);
        x.shuffle(9, 1, 0);
        refusedBack(x);
    }

    private static void notIntoTheAuction() {
        ShortBridge x = Boards.playing(Boards.WHOLE_SUITS, 0, 3);
        refusedBack(x);
        x.play(5);
        Checks.due("back() of the first card", x.back(), true);
        Checks.due("phase()", x.phase(), 2);
        Checks.due("turn()", x.turn(), 1);
        refusedBack(x);
    }

    private static void anotherWayOn() {
        ShortBridge x = Boards.playing(Boards.ROUND, 0, 7, 1, 2, 3, 4);
        Checks.due("turn() behind 1 2 3 4", x.turn(), 0);
        x.back();
        x.play(0);
        Checks.due("turn() behind 1 2 3 0", x.turn(), 3);
        Checks.due("tricks(0)", x.tricks(0), 0);
        Checks.due("tricks(1)", x.tricks(1), 1);
        ShortBridge y = Boards.auction(2, 3);
        y.back();
        Checks.calls(y, 0, 3);
        Checks.due("declarer", y.contract(2), 3);
        ShortBridge z = Boards.auction(0, 3, 0);
        z.back();
        z.back();
        Checks.calls(z, 0, 0, 3);
        Checks.due("declarer when the partner's bid was taken back", z.contract(2), 2);
    }

    private static void contractOfThePlay() {
        for (int declarer = 0; declarer < 4; declarer++) {
            ShortBridge x = new ShortBridge();
            x.deal(0, declarer, 0);
            Boards.bidAndDouble(x, 3 + declarer, declarer % 3);
            while (x.phase() == 2) {
                contractDue(x, 3 + declarer, declarer % 3, declarer);
                Checks.playAny(x, 0);
            }
            contractDue(x, 3 + declarer, declarer % 3, declarer);
        }
    }

    private static void contractOfTheAuction() {
        ShortBridge x = Boards.auction(0);
        int[] calls = {0, 5, 1, 2, 0, 6, 0, 0, 1, 9};
        int[][] due = {
            {-1, -1, -1}, {5, 0, 1}, {5, 1, 1}, {5, 2, 1}, {5, 2, 1}, {6, 0, 1}, {6, 0, 1}, {6, 0, 1}, {6, 1, 1}, {9, 0, 1}
        };
        for (int i = 0; i < calls.length; i++) {
            x.call(calls[i]);
            contractDue(x, due[i][0], due[i][1], due[i][2]);
        }
        // The partner was the first to bid the strain, or the strain is a new one.
        contractDue(Boards.auction(0, 3, 0, 8), 8, 0, 0);
        contractDue(Boards.auction(0, 3, 0, 8, 9), 9, 0, 3);
    }

    private static void contractDue(ShortBridge x, int bid, int doubled, int declarer) {
        Checks.due("contract(0)", x.contract(0), bid);
        Checks.due("contract(1)", x.contract(1), doubled);
        Checks.due("contract(2)", x.contract(2), declarer);
    }

    private static void noBid() {
        contractDue(Boards.auction(0), -1, -1, -1);
        contractDue(Boards.auction(0, 0, 0, 0), -1, -1, -1);
        contractDue(Boards.passedOut(), -1, -1, -1);
        ShortBridge x = Boards.playedOut(0, 7);
        x.deal(0, 0, 0);
        contractDue(x, -1, -1, -1);
    }

    private static void noBoard() {
        ShortBridge x = new ShortBridge();
        contractDue(x, -1, -1, -1);
        x.deal(-1, 0, 0);
        contractDue(x, -1, -1, -1);
    }

    private static void anotherNumber() {
        ShortBridge none = new ShortBridge();
        ShortBridge playing = Boards.playing(Boards.ROUND, 0, 7);
        ShortBridge over = Boards.playedOut(0, 7);
        for (ShortBridge x : new ShortBridge[] {none, Boards.auction(0), Boards.auction(0, 3, 1), playing, over}) {
            for (int what : new int[] {-1, 3, 4, Integer.MIN_VALUE, Integer.MAX_VALUE}) {
                Checks.due("contract(" + what + ")", x.contract(what), -1);
            }
        }
    }

    private static void tricksOfSides() {
        ShortBridge x = Boards.playing(Boards.WHOLE_SUITS, 0, 4);
        for (int i = 0; i <= 20; i++) {
            Checks.due("tricks(1) behind " + i + " cards", x.tricks(1), i / 4);
            Checks.due("tricks(0) behind " + i + " cards", x.tricks(0), 0);
            if (i < 20) {
                Checks.playAny(x, 0);
            }
        }
        ShortBridge y = Boards.playing(Boards.ROUND, 0, 7, 9, 6, 7, 8, 5, 2, 3, 4, 13, 14, 11, 12, 10, 15, 0, 1);
        Checks.due("tricks(0) of four", y.tricks(0), 2);
        Checks.due("tricks(1) of four", y.tricks(1), 2);
    }

    private static void tricksBeforeThePlay() {
        ShortBridge none = new ShortBridge();
        ShortBridge after = Boards.playedOut(0, 3);
        after.deal(0, 0, 0);
        ShortBridge noCards = Boards.playing(Boards.ROUND, 0, 7);
        for (ShortBridge x : new ShortBridge[] {none, after, Boards.auction(0, 3), noCards, Boards.passedOut()}) {
            Checks.due("tricks(0)", x.tricks(0), 0);
            Checks.due("tricks(1)", x.tricks(1), 0);
        }
    }

    private static void noSuchSide() {
        ShortBridge none = new ShortBridge();
        ShortBridge playing = Boards.playing(Boards.ROUND, 0, 7, 1, 2, 3, 4);
        for (ShortBridge x : new ShortBridge[] {none, Boards.auction(0), playing, Boards.playedOut(0, 3), Boards.passedOut()}) {
            for (int side : new int[] {-1, 2, 3, 4, Integer.MIN_VALUE, Integer.MAX_VALUE}) {
                Checks.due("tricks(" + side + ")", x.tricks(side), -1);
            }
        }
    }

    private static void cardsUnderWay() {
        ShortBridge x = Boards.playing(Boards.ROUND, 0, 7);
        tableDue(x, -1, -1, -1);
        x.play(1);
        tableDue(x, 1, -1, -1);
        x.play(2);
        tableDue(x, 1, 2, -1);
        x.play(3);
        tableDue(x, 1, 2, 3);
        x.play(4);
        x.play(0);
        tableDue(x, 0, -1, -1);
        x.play(17);
        tableDue(x, 0, 17, -1);
    }

    private static void tableDue(ShortBridge x, int first, int second, int third) {
        Checks.due("table(0)", x.table(0), first);
        Checks.due("table(1)", x.table(1), second);
        Checks.due("table(2)", x.table(2), third);
        Checks.due("table(3)", x.table(3), -1);
    }

    private static void behindTheFourthCard() {
        ShortBridge x = Boards.playing(Boards.ROUND, 0, 7, 1, 2, 3, 4);
        tableDue(x, -1, -1, -1);
        x.back();
        tableDue(x, 1, 2, 3);
        tableDue(Boards.playedOut(0, 7), -1, -1, -1);
    }

    private static void noCardOnTheTable() {
        tableDue(new ShortBridge(), -1, -1, -1);
        tableDue(Boards.auction(0, 3), -1, -1, -1);
        tableDue(Boards.passedOut(), -1, -1, -1);
        ShortBridge x = Boards.playing(Boards.ROUND, 0, 7, 1, 2, 3, 4, 0, 17, 18);
        for (int i : new int[] {-1, -4, 3, 4, 5, 20, Integer.MIN_VALUE, Integer.MAX_VALUE}) {
            Checks.due("table(" + i + ")", x.table(i), -1);
        }
        x.deal(0, 0, 0);
        tableDue(x, -1, -1, -1);
    }
}
