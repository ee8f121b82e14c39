import java.math.BigInteger;
import java.util.concurrent.Callable;

/** What all tests share: comparing answers with those that are due, and short ways to reach a state. */
final class Checks {
    private static int checked = 0;
    private static int wrong = 0;

    private Checks() {
    }

    interface Action {
        void run();
    }

    static void due(String what, long got, long want) {
        checked++;
        if (got != want) {
            wrong++;
            System.out.println(what + " answered " + got + ", due is " + want);
        }
    }

    static void due(String what, boolean got, boolean want) {
        due(what, got ? 1 : 0, want ? 1 : 0);
    }

    static void due(String what, String got, String want) {
        checked++;
        if (!got.equals(want)) {
            wrong++;
            System.out.println(what + " gave\n  " + got + "\ndue is\n  " + want);
        }
    }

    /** The answer as a text, or the name of the exception behind "throws ". */
    static String answer(Callable<?> call) {
        try {
            return String.valueOf(call.call());
        } catch (Exception e) {
            return "throws " + e.getClass().getSimpleName();
        }
    }

    static String answer(Action call) {
        return answer(() -> {
            call.run();
            return "nothing";
        });
    }

    /** The test of one sentence of the document: what is not as due is told above the sentence that it breaks. */
    static void sentence(String words, Action test) {
        int checkedBefore = checked;
        int wrongBefore = wrong;
        String end = answer(test);
        due("whether something was looked at", checked > checkedBefore, true);
        due("the end of the test", end, "nothing");
        if (wrong > wrongBefore) {
            System.out.println("broken: " + words);
        }
    }

    /** The call throws this exception and leaves the board as it was. */
    static void refused(String what, ShortBridge x, Class<?> exception, Action call) {
        String before = snapshot(x);
        due(what, answer(call), "throws " + exception.getSimpleName());
        due(what + " and the board behind it", snapshot(x), before);
    }

    /** All that can be asked of an object without changing it, but for solve(). */
    static String snapshot(ShortBridge x) {
        StringBuilder s = new StringBuilder();
        s.append("number ").append(x.number()).append(" phase ").append(x.phase()).append(" turn ").append(x.turn());
        s.append(" hands");
        for (int p = 0; p < 4; p++) {
            s.append(' ').append(hand(x, p));
        }
        s.append(" contract ").append(x.contract(0)).append(' ').append(x.contract(1)).append(' ').append(x.contract(2));
        s.append(" tricks ").append(x.tricks(0)).append(' ').append(x.tricks(1)).append(" table");
        for (int i = 0; i < 4; i++) {
            s.append(' ').append(x.table(i));
        }
        s.append(" score ").append(answer(x::score)).append(" results");
        for (int i = 0; i < 12; i++) {
            int result = i;
            s.append(' ').append(answer(() -> x.points(result, 0))).append('/').append(answer(() -> x.places(result)));
        }
        return s.toString();
    }

    static String hand(ShortBridge x, int p) {
        StringBuilder s = new StringBuilder();
        for (int c = 0; c < 20; c++) {
            if (x.has(p, c)) {
                s.append(s.length() == 0 ? "" : ",").append(c);
            }
        }
        return s.toString();
    }

    static void calls(ShortBridge x, int... calls) {
        for (int c : calls) {
            x.call(c);
        }
    }

    static void plays(ShortBridge x, int... cards) {
        for (int c : cards) {
            x.play(c);
        }
    }

    /** Plays a card that is allowed, the first one from this card on. */
    static void playAny(ShortBridge x, int from) {
        for (int i = 0; i < 20; i++) {
            int c = (from + i) % 20;
            if (x.has(x.turn(), c) && answer(() -> x.play(c)).equals("nothing")) {
                return;
            }
        }
        due("a card that is allowed", "none", "one");
    }

    /** How many deals come before the one in which these players get the cards 0, 1 and so on. */
    static long numberOf(String owners) {
        int[] left = {5, 5, 5, 5};
        BigInteger sum = BigInteger.ZERO;
        for (int c = 0; c < 20; c++) {
            int owner = owners.charAt(c) - '0';
            for (int p = 0; p < owner; p++) {
                if (left[p] > 0) {
                    left[p]--;
                    sum = sum.add(rows(left));
                    left[p]++;
                }
            }
            left[owner]--;
        }
        return sum.longValueExact();
    }

    /** In how many ways the players can get as many cards as each has left to get. */
    static BigInteger rows(int[] left) {
        BigInteger n = factorial(left[0] + left[1] + left[2] + left[3]);
        for (int k : left) {
            n = n.divide(factorial(k));
        }
        return n;
    }

    private static BigInteger factorial(int n) {
        return n == 0 ? BigInteger.ONE : BigInteger.valueOf(n).multiply(factorial(n - 1));
    }

    /** Every test's last call. */
    static void end(String test) {
        System.out.println(test + ": " + checked + " answers looked at, " + wrong + " not as due");
        if (wrong != 0 || checked == 0) {
            System.exit(1);
        }
    }
}
