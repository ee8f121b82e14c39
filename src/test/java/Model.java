import java.math.BigInteger;
import java.util.ArrayList;
import java.util.Collections;
import java.util.List;
import java.util.NoSuchElementException;

/**
 * The document once more, as plainly as can be: all calls and cards are kept in lists, and every
 * answer is found by going through them from the start.
 */
final class Model {
    private static final int[] STEPS = {
        20, 50, 90, 130, 170, 220, 270, 320, 370, 430, 500, 600, 750, 900, 1100, 1300, 1500, 1750, 2000
    };

    private String owners;
    private long number = -1;
    private int dealer;
    private int vulnerable;
    private final List<Integer> calls = new ArrayList<>();
    private final List<Integer> cards = new ArrayList<>();
    private final List<long[]> results = new ArrayList<>();

    boolean deal(long n, int d, int v) {
        if (n < 0 || n > 11732745023L || d < 0 || d > 3 || v < 0 || v > 3) {
            return false;
        }
        begin(ownersOf(n), n, d, v);
        return true;
    }

    long shuffle(long seed, int d, int v) {
        if (d < 0 || d > 3 || v < 0 || v > 3) {
            return -1;
        }
        List<Integer> row = new ArrayList<>();
        for (int c = 0; c < 20; c++) {
            row.add(c);
        }
        long h = seed;
        for (int i = 19; i >= 1; i--) {
            h = h * 6364136223846793005L + 1442695040888963407L;
            Collections.swap(row, i, (int) ((h >>> 33) % (i + 1)));
        }
        StringBuilder s = new StringBuilder();
        for (int c = 0; c < 20; c++) {
            s.append(row.indexOf(c) / 5);
        }
        begin(s.toString(), Checks.numberOf(s.toString()), d, v);
        return number;
    }

    long number() {
        return number;
    }

    int phase() {
        if (owners == null) {
            return 0;
        }
        int n = calls.size();
        if (lastBidAt() < 0) {
            return n == 4 ? 3 : 1;
        }
        boolean ended = calls.get(n - 1) == 0 && calls.get(n - 2) == 0 && n > 3 && calls.get(n - 3) == 0;
        if (!ended) {
            return 1;
        }
        return cards.size() == 20 ? 3 : 2;
    }

    int turn() {
        if (phase() == 1) {
            return (dealer + calls.size()) % 4;
        }
        return phase() == 2 ? players(cards).get(cards.size()) : -1;
    }

    boolean has(int p, int c) {
        return owners != null && c >= 0 && c < 20 && owners.charAt(c) - '0' == p && !cards.contains(c);
    }

    void call(int c) {
        if (phase() != 1) {
            throw new IllegalStateException();
        }
        if (c < 0 || c > 17) {
            throw new IllegalArgumentException();
        }
        int at = calls.size() - 1;
        while (at >= 0 && calls.get(at) == 0) {
            at--;
        }
        boolean byOthers = at >= 0 && (calls.size() - at) % 2 == 1;
        boolean allowed = c == 0
            || c == 1 && byOthers && calls.get(at) > 2
            || c == 2 && byOthers && calls.get(at) == 1
            || c > 2 && calls.stream().allMatch(before -> before < c);
        if (!allowed) {
            throw new UnsupportedOperationException();
        }
        calls.add(c);
    }

    void play(int c) {
        if (phase() != 2) {
            throw new IllegalStateException();
        }
        if (!has(turn(), c)) {
            throw new NoSuchElementException();
        }
        if (!choices(cards).contains(c)) {
            throw new UnsupportedOperationException();
        }
        cards.add(c);
    }

    boolean back() {
        if (!cards.isEmpty()) {
            cards.remove(cards.size() - 1);
            return true;
        }
        if (phase() == 0 || phase() == 2 || calls.isEmpty()) {
            return false;
        }
        calls.remove(calls.size() - 1);
        return true;
    }

    int contract(int what) {
        int at = lastBidAt();
        if (at < 0 || what < 0 || what > 2) {
            return -1;
        }
        if (what == 0) {
            return calls.get(at);
        }
        if (what == 1) {
            List<Integer> behind = calls.subList(at, calls.size());
            return behind.contains(2) ? 2 : behind.contains(1) ? 1 : 0;
        }
        int i = at % 2;
        while (calls.get(i) < 3 || calls.get(i) % 5 != calls.get(at) % 5) {
            i += 2;
        }
        return (dealer + i) % 4;
    }

    int tricks(int side) {
        return side == 0 || side == 1 ? tricksIn(cards, side) : -1;
    }

    int table(int i) {
        int first = cards.size() / 4 * 4;
        return i >= 0 && i < 4 && first + i < cards.size() ? cards.get(first + i) : -1;
    }

    int score() {
        if (phase() != 3) {
            throw new IllegalStateException();
        }
        if (lastBidAt() < 0) {
            return 0;
        }
        int side = contract(2) % 2;
        int own = ownScore(contract(0), contract(1), tricks(side), (vulnerable & 1 + side) != 0);
        return side == 0 ? own : -own;
    }

    int solve() {
        if (phase() != 2) {
            throw new IllegalStateException();
        }
        if (cards.size() < 4) {
            throw new UnsupportedOperationException();
        }
        return best(new ArrayList<>(cards), contract(2) % 2);
    }

    int record() {
        int score = score();
        if (results.size() == 12) {
            throw new UnsupportedOperationException();
        }
        results.add(new long[] {score, number});
        return results.size();
    }

    int points(int i, int j) {
        long a = results.get(i)[0] - results.get(j)[0];
        int n = 0;
        for (int step : STEPS) {
            n += step <= Math.abs(a) ? 1 : 0;
        }
        return a < 0 ? -n : n;
    }

    int places(int i) {
        long[] own = results.get(i);
        int n = 0;
        for (long[] other : results) {
            if (other != own && other[1] == own[1]) {
                n += other[0] < own[0] ? 2 : other[0] == own[0] ? 1 : 0;
            }
        }
        return n;
    }

    private void begin(String o, long n, int d, int v) {
        owners = o;
        number = n;
        dealer = d;
        vulnerable = v;
        calls.clear();
        cards.clear();
    }

    private static String ownersOf(long n) {
        BigInteger rest = BigInteger.valueOf(n);
        int[] left = {5, 5, 5, 5};
        StringBuilder s = new StringBuilder();
        while (s.length() < 20) {
            for (int p = 0; p < 4; p++) {
                if (left[p] == 0) {
                    continue;
                }
                left[p]--;
                BigInteger rows = Checks.rows(left);
                if (rest.compareTo(rows) < 0) {
                    s.append(p);
                    break;
                }
                rest = rest.subtract(rows);
                left[p]++;
            }
        }
        return s.toString();
    }

    private int lastBidAt() {
        int at = calls.size() - 1;
        while (at >= 0 && calls.get(at) < 3) {
            at--;
        }
        return at;
    }

    /** Who played each of these cards, and who comes next. */
    private List<Integer> players(List<Integer> line) {
        List<Integer> players = new ArrayList<>();
        int leader = (contract(2) + 1) % 4;
        for (int first = 0; first <= line.size(); first += 4) {
            int winner = -1;
            int top = -1;
            for (int i = first; i < first + 4; i++) {
                players.add((leader + i - first) % 4);
                int value = i < line.size() ? value(line.get(i), line.get(first)) : -1;
                if (value > top) {
                    top = value;
                    winner = players.get(i);
                }
            }
            leader = winner;
        }
        return players;
    }

    private int value(int card, int led) {
        if (card / 5 == (contract(0) - 3) % 5) {
            return 100 + card;
        }
        return card / 5 == led / 5 ? card : -1;
    }

    private int tricksIn(List<Integer> line, int side) {
        if (line.size() < 4) {
            return 0;
        }
        List<Integer> players = players(line);
        int n = 0;
        for (int next = 4; next <= line.size(); next += 4) {
            n += players.get(next) % 2 == side ? 1 : 0;
        }
        return n;
    }

    private List<Integer> choices(List<Integer> line) {
        int player = players(line).get(line.size());
        List<Integer> hand = new ArrayList<>();
        List<Integer> following = new ArrayList<>();
        for (int c = 0; c < 20; c++) {
            if (owners.charAt(c) - '0' == player && !line.contains(c)) {
                hand.add(c);
                if (line.size() % 4 != 0 && line.get(line.size() / 4 * 4) / 5 == c / 5) {
                    following.add(c);
                }
            }
        }
        return following.isEmpty() ? hand : following;
    }

    private int best(List<Integer> line, int side) {
        if (line.size() == 20) {
            return tricksIn(line, side);
        }
        boolean own = players(line).get(line.size()) % 2 == side;
        int best = own ? -1 : 6;
        for (int c : choices(line)) {
            line.add(c);
            int n = best(line, side);
            line.remove(line.size() - 1);
            best = own ? Math.max(best, n) : Math.min(best, n);
        }
        return best;
    }

    private static int ownScore(int bid, int x, int t, boolean v) {
        int level = (bid + 2) / 5;
        int strain = (bid + 2) % 5;
        int needed = level + 2;
        int worth = strain < 2 ? 20 : 30;
        if (t < needed) {
            int sum = 0;
            for (int k = 1; k <= needed - t; k++) {
                int plain = k == 1 ? 100 : k <= 3 ? 200 : 300;
                int lost = x == 0 ? (v ? 100 : 50) : x * (v ? (k == 1 ? 200 : 300) : plain);
                sum -= lost;
            }
            return sum;
        }
        int m = (level * worth + (strain == 4 ? 10 : 0)) * (x == 0 ? 1 : x == 1 ? 2 : 4);
        int bonus = m < 100 ? 50 : v ? 500 : 300;
        int slam = level < 3 ? 0 : v ? 600 : 400;
        int extra = x == 0 ? worth : v ? 200 * x : 100 * x;
        return m + bonus + slam + 50 * x + (t - needed) * extra;
    }
}
