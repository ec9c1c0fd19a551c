import java.util.ArrayList;
import java.util.Arrays;
import java.util.List;

/** The document once more, by trying everything: towns are numbers, nothing is cut short. */
final class Model {
    static final int NONE = -1, UNKNOWN = -1000000001, OUTSIDE = -1000000002, NOT = -1000000003, FULL = -1000000004;

    /** What an image keeps. */
    private record State(int n, boolean[][] ties, int[][] bars, int[] said, int seed) {
    }

    private record Token(char kind, String text, int at) {
    }

    private record Day(int p, int q, boolean made) {
    }

    private StringBuilder text = new StringBuilder();
    private int faultAt = NONE;
    private int n;
    private boolean[][] ties = new boolean[8][8];
    private int[][] bars = new int[8][8];
    private int[] said = new int[8];
    private int m = 1;
    private int d = 1;
    private int seed;
    private List<Day> book = new ArrayList<>();
    private State[] images = new State[2];

    // ---- the town

    int feed(int k, long bytes) {
        if (k < 1 || k > 8) {
            return OUTSIDE;
        }
        if (text.length() + k > 400) {
            return FULL;
        }
        for (int i = k - 1; i >= 0; i--) {
            text.append((char) (bytes >>> 8 * i & 255));
        }
        return text.length();
    }

    /** A fault is thrown as {kind, place}. */
    private static final class Fault extends Exception {
        private static final long serialVersionUID = 1;
        private final int kind;
        private final int place;

        Fault(int kind, int place) {
            this.kind = kind;
            this.place = place;
        }
    }

    private static List<Token> tokens(String s) {
        List<Token> list = new ArrayList<>();
        int i = 0;
        while (i < s.length()) {
            char c = s.charAt(i);
            int j = i + 1;
            if (c >= 'a' && c <= 'z') {
                while (j < s.length() && s.charAt(j) >= 'a' && s.charAt(j) <= 'z') {
                    j++;
                }
                list.add(new Token('w', s.substring(i, j), i));
            } else if (c >= '0' && c <= '9') {
                while (j < s.length() && s.charAt(j) >= '0' && s.charAt(j) <= '9') {
                    j++;
                }
                list.add(new Token('n', s.substring(i, j), i));
            } else if (c != ' ') {
                list.add(new Token(c == ';' ? ';' : '?', s.substring(i, j), i));
            }
            i = j;
        }
        list.add(new Token('e', "", s.length()));
        return list;
    }

    private static int number(Token t, int least, int most) throws Fault {
        if (t.kind != 'n') {
            throw new Fault(1, t.at);
        }
        if (t.text.length() > 3 || Integer.parseInt(t.text) < least || Integer.parseInt(t.text) > most) {
            throw new Fault(2, t.at);
        }
        return Integer.parseInt(t.text);
    }

    private Model parsed() throws Fault {
        Model next = new Model();
        List<Token> list = tokens(text.toString());
        boolean[][] seen = new boolean[8][8];
        boolean cost = false;
        for (int i = 0; list.get(i).kind != 'e'; ) {
            Token word = list.get(i);
            boolean known = List.of("people", "friends", "barred", "must", "cost").contains(word.text);
            if (word.kind != 'w' || !known || i == 0 && !word.text.equals("people")) {
                throw new Fault(1, word.at);
            }
            if (i > 0 && word.text.equals("people") || cost && word.text.equals("cost")) {
                throw new Fault(3, word.at);
            }
            int args = word.text.equals("people") ? 1 : 2;
            if (args == 1) {
                next.n = number(list.get(i + 1), 1, 8);
            } else if (word.text.equals("cost")) {
                cost = true;
                next.m = number(list.get(i + 1), 1, 9);
                next.d = number(list.get(i + 2), 1, 9);
            } else {
                int p = number(list.get(i + 1), 0, next.n - 1);
                int q = number(list.get(i + 2), 0, next.n - 1);
                if (p == q || seen[p][q]) {
                    throw new Fault(4, list.get(i + 2).at);
                }
                seen[p][q] = seen[q][p] = true;
                next.ties[p][q] = next.ties[q][p] = !word.text.equals("barred");
                next.bars[p][q] = next.bars[q][p] = List.of("friends", "barred", "must").indexOf(word.text);
            }
            Token end = list.get(i + 1 + args);
            if (end.kind != ';') {
                throw new Fault(1, end.at);
            }
            i += args + 2;
        }
        return next;
    }

    int town() {
        try {
            Model next = parsed();
            n = next.n;
            ties = next.ties;
            bars = next.bars;
            m = next.m;
            d = next.d;
            resay();
            book.clear();
            images = new State[2];
            faultAt = NONE;
            return n;
        } catch (Fault f) {
            faultAt = f.place;
            return -10 - f.kind;
        } finally {
            text = new StringBuilder();
        }
    }

    int fault() {
        return faultAt;
    }

    int told(int what) {
        int barred = 0;
        int must = 0;
        int[][] pairs = pairs(n);
        for (int k = 0; k < pairs.length; k++) {
            int bar = bars[pairs[k][0]][pairs[k][1]];
            barred |= bar == 1 ? 1 << k : 0;
            must |= bar == 2 ? 1 << k : 0;
        }
        int alike = alikePairs(counts(n, number()));
        int[] all = {n, Integer.bitCount(number()), number(), barred, must, m, d, alike,
            n > 1 && alike == 1 ? 1 : 0, text.length(), book.size()};
        return what < 0 || what >= all.length ? OUTSIDE : all[what];
    }

    private boolean no(int p) {
        return p < 0 || p >= n;
    }

    private boolean noTwo(int p, int q) {
        return no(p) || no(q) || p == q;
    }

    int count(int p) {
        return no(p) ? UNKNOWN : counts(n, number())[p];
    }

    int friends(int p) {
        if (no(p)) {
            return UNKNOWN;
        }
        int set = 0;
        for (int q = 0; q < n; q++) {
            set |= ties[p][q] ? 1 << q : 0;
        }
        return set;
    }

    int alike(int p) {
        if (no(p)) {
            return UNKNOWN;
        }
        int set = 0;
        for (int q = 0; q < n; q++) {
            set |= q != p && count(q) == count(p) ? 1 << q : 0;
        }
        return set;
    }

    int pair(int p, int q) {
        return noTwo(p, q) ? UNKNOWN : pairOf(n, p, q);
    }

    // ---- changes

    int tie(int p, int q, boolean is) {
        if (noTwo(p, q)) {
            return UNKNOWN;
        }
        if (bars[p][q] == (is ? 1 : 2)) {
            return NOT;
        }
        int was = number();
        ties[p][q] = ties[q][p] = is;
        return was == number() ? 0 : 1;
    }

    int bar(int p, int q, int v) {
        if (noTwo(p, q)) {
            return UNKNOWN;
        }
        if (v < 0 || v > 2) {
            return OUTSIDE;
        }
        int was = bars[p][q];
        bars[p][q] = bars[q][p] = v;
        if (v > 0) {
            ties[p][q] = ties[q][p] = v == 2;
        }
        return was;
    }

    int birth() {
        if (n == 8) {
            return FULL;
        }
        n++;
        resay();
        return n - 1;
    }

    int death(int p) {
        if (no(p)) {
            return UNKNOWN;
        }
        boolean[][] newTies = new boolean[8][8];
        int[][] newBars = new int[8][8];
        for (int i = 0; i < n - 1; i++) {
            for (int j = 0; j < n - 1; j++) {
                newTies[i][j] = ties[i < p ? i : i + 1][j < p ? j : j + 1];
                newBars[i][j] = bars[i < p ? i : i + 1][j < p ? j : j + 1];
            }
        }
        ties = newTies;
        bars = newBars;
        n--;
        resay();
        return n;
    }

    // ---- good towns

    int made(int k, int way, int i, int j) {
        if (k < 2 || k > 8 || way < 0 || way > 1 || i < 0 || j < 0 || i >= k || j >= k || i == j) {
            return OUTSIDE;
        }
        return way == 0 ? i + j >= k ? 1 : 0 : i + j < k ? 1 : 0;
    }

    /** {price, way, town, places ..} or null: every row of places is tried, the first ones first. */
    private int[] makeGood() {
        int[] best = null;
        for (int way = 0; way < 2; way++) {
            int[] row = new int[n];
            for (int i = 0; i < n; i++) {
                row[i] = i;
            }
            do {
                int town = 0;
                int[][] pairs = pairs(n);
                for (int k = 0; k < pairs.length; k++) {
                    town |= made(n, way, row[pairs[k][0]], row[pairs[k][1]]) << k;
                }
                if (keepsBars(town) && (best == null || price(town) < best[0])) {
                    best = new int[3 + n];
                    best[0] = price(town);
                    best[1] = way;
                    best[2] = town;
                    System.arraycopy(row, 0, best, 3, n);
                }
            } while (nextRow(row));
        }
        return best;
    }

    private static boolean nextRow(int[] row) {
        int i = row.length - 2;
        while (i >= 0 && row[i] > row[i + 1]) {
            i--;
        }
        if (i < 0) {
            return false;
        }
        int j = row.length - 1;
        while (row[j] < row[i]) {
            j--;
        }
        int x = row[i];
        row[i] = row[j];
        row[j] = x;
        Arrays.sort(row, i + 1, row.length);
        return true;
    }

    int good(int p) {
        if (p < -3 || p >= n) {
            return UNKNOWN;
        }
        if (n < 2) {
            return NOT;
        }
        int[] best = makeGood();
        return best == null ? NONE : p < 0 ? best[-1 - p] : best[3 + p];
    }

    private Model copy() {
        Model c = new Model();
        c.n = n;
        c.m = m;
        c.d = d;
        for (int p = 0; p < 8; p++) {
            c.ties[p] = ties[p].clone();
            c.bars[p] = bars[p].clone();
        }
        c.said = said.clone();
        return c;
    }

    int born() {
        if (n < 1 || n > 7) {
            return NOT;
        }
        Model c = copy();
        c.birth();
        return c.good(NONE);
    }

    int dies(int p) {
        if (no(p)) {
            return UNKNOWN;
        }
        if (n < 3) {
            return NOT;
        }
        Model c = copy();
        c.death(p);
        return c.good(NONE);
    }

    int nearest(int what) {
        if (what < 0 || what > 2) {
            return OUTSIDE;
        }
        if (n > 6) {
            return NOT;
        }
        int[] best = null;
        for (int town = 0; town < 1 << pairs(n).length; town++) {
            if (keepsBars(town)) {
                int[] it = {alikePairs(counts(n, town)), price(town), town};
                if (best == null || Arrays.compare(it, best) < 0) {
                    best = it;
                }
            }
        }
        return best[what];
    }

    int even(int degree, int what) {
        if (degree < 0 || degree > 5 || what < 0 || what > 1) {
            return OUTSIDE;
        }
        if (n > 6) {
            return NOT;
        }
        int[] best = null;
        for (int town = 0; town < 1 << pairs(n).length; town++) {
            boolean even = Arrays.stream(counts(n, town)).allMatch(c -> c == degree);
            if (even && keepsBars(town) && (best == null || price(town) < best[0])) {
                best = new int[] {price(town), town};
            }
        }
        return best == null ? NONE : best[what];
    }

    // ---- counts told

    int tell(int p, int v) {
        if (no(p)) {
            return UNKNOWN;
        }
        if (v < 0 || v > 7) {
            return OUTSIDE;
        }
        int was = said[p];
        said[p] = v;
        return was;
    }

    private List<Integer> townsOf(int[] want) {
        List<Integer> list = new ArrayList<>();
        for (int town = 0; town < 1 << pairs(n).length; town++) {
            if (Arrays.equals(counts(n, town), want)) {
                list.add(town);
            }
        }
        return list;
    }

    int canBe() {
        return n > 6 ? NOT : townsOf(Arrays.copyOf(said, n)).size();
    }

    int sure(int p, int what) {
        if (no(p)) {
            return UNKNOWN;
        }
        if (what < 0 || what > 1) {
            return OUTSIDE;
        }
        if (n > 6) {
            return NOT;
        }
        List<Integer> list = townsOf(Arrays.copyOf(said, n));
        int set = 0;
        for (int q = 0; q < n; q++) {
            if (q != p) {
                int bit = pairOf(n, p, q);
                boolean in = what == 1 ? list.stream().anyMatch(t -> (t >> bit & 1) == 1)
                        : !list.isEmpty() && list.stream().allMatch(t -> (t >> bit & 1) == 1);
                set |= in ? 1 << q : 0;
            }
        }
        return set;
    }

    int liar() {
        if (n > 6) {
            return NOT;
        }
        int[] want = Arrays.copyOf(said, n);
        if (!townsOf(want).isEmpty()) {
            return 0;
        }
        int set = 0;
        for (int p = 0; p < n; p++) {
            for (int v = 0; v < n; v++) {
                want[p] = v;
                set |= v != said[p] && !townsOf(want).isEmpty() ? 1 << p : 0;
            }
            want[p] = said[p];
        }
        return set;
    }

    // ---- weights

    int weight(int p, int q) {
        if (p != NONE && noTwo(p, q)) {
            return UNKNOWN;
        }
        List<int[]> edges = new ArrayList<>();
        for (int[] two : pairs(n)) {
            if (ties[two[0]][two[1]]) {
                edges.add(two);
            }
        }
        if (edges.size() > 8) {
            return NOT;
        }
        for (int g = 1; g <= 4; g++) {
            int rows = (int) Math.pow(g, edges.size());
            for (int row = 0; row < rows; row++) {
                // The first friendship has the highest figure: rows come in the order that is asked.
                int[] weights = new int[edges.size()];
                int left = row;
                for (int k = edges.size() - 1; k >= 0; k--) {
                    weights[k] = 1 + left % g;
                    left /= g;
                }
                int[] sums = new int[n];
                for (int k = 0; k < weights.length; k++) {
                    sums[edges.get(k)[0]] += weights[k];
                    sums[edges.get(k)[1]] += weights[k];
                }
                if (Arrays.stream(sums).distinct().count() == n) {
                    if (p == NONE) {
                        return g;
                    }
                    for (int k = 0; k < weights.length; k++) {
                        if (pairOf(n, p, q) == pairOf(n, edges.get(k)[0], edges.get(k)[1])) {
                            return weights[k];
                        }
                    }
                    return 0;
                }
            }
        }
        return NONE;
    }

    // ---- books, draws, images

    int write(int p, int q, boolean made) {
        if (noTwo(p, q)) {
            return UNKNOWN;
        }
        if (book.size() >= 30) {
            return FULL;
        }
        book.add(new Day(p, q, made));
        return book.size();
    }

    int tear() {
        int had = book.size();
        book.clear();
        return had;
    }

    int judge(int what) {
        if (what < 0 || what > 1) {
            return OUTSIDE;
        }
        Model c = copy();
        int wrong = NONE;
        for (int i = 0; i < book.size() && wrong == NONE; i++) {
            if (c.tie(book.get(i).p, book.get(i).q, book.get(i).made) < 0) {
                wrong = i;
            }
        }
        return what == 0 ? wrong : c.told(7);
    }

    private int draw(int k) {
        seed = (int) ((seed * 1103515245L + 12345L) % 2147483648L);
        return seed / 65536 % k;
    }

    int drift(int weeks) {
        if (weeks < 1 || weeks > 99) {
            return OUTSIDE;
        }
        if (n == 0) {
            return NOT;
        }
        for (int week = 0; week < weeks; week++) {
            int event = draw(8);
            if (event == 0) {
                birth();
            } else if (event == 1) {
                if (n > 1) {
                    death(draw(n));
                }
            } else if (n > 1) {
                int[] two = pairs(n)[draw(pairs(n).length)];
                tie(two[0], two[1], !ties[two[0]][two[1]]);
            }
        }
        return number();
    }

    int seed(int v) {
        if (v < 0) {
            return OUTSIDE;
        }
        int was = seed;
        seed = v;
        return was;
    }

    int keep(int i) {
        if (i < 0 || i > 1) {
            return UNKNOWN;
        }
        Model c = copy();
        images[i] = new State(n, c.ties, c.bars, c.said, seed);
        return 1;
    }

    int goBack(int i) {
        if (i < 0 || i > 1) {
            return UNKNOWN;
        }
        if (images[i] == null) {
            return NOT;
        }
        n = images[i].n;
        ties = images[i].ties;
        bars = images[i].bars;
        said = images[i].said;
        seed = images[i].seed;
        // A copy of its own again, so that later changes do not reach the image.
        return keep(i);
    }

    // ---- towns as numbers

    private static int[][] pairs(int n) {
        List<int[]> list = new ArrayList<>();
        for (int p = 0; p < n; p++) {
            for (int q = p + 1; q < n; q++) {
                list.add(new int[] {p, q});
            }
        }
        return list.toArray(new int[0][]);
    }

    private static int pairOf(int n, int p, int q) {
        int[][] pairs = pairs(n);
        for (int k = 0; k < pairs.length; k++) {
            if (pairs[k][0] == Math.min(p, q) && pairs[k][1] == Math.max(p, q)) {
                return k;
            }
        }
        return NONE;
    }

    private int number() {
        int number = 0;
        int[][] pairs = pairs(n);
        for (int k = 0; k < pairs.length; k++) {
            number |= ties[pairs[k][0]][pairs[k][1]] ? 1 << k : 0;
        }
        return number;
    }

    private static int[] counts(int n, int town) {
        int[] counts = new int[n];
        int k = 0;
        for (int p = 0; p < n; p++) {
            for (int q = p + 1; q < n; q++) {
                counts[p] += town >> k & 1;
                counts[q] += town >> k & 1;
                k++;
            }
        }
        return counts;
    }

    private static int alikePairs(int[] counts) {
        int alike = 0;
        for (int p = 0; p < counts.length; p++) {
            for (int q = p + 1; q < counts.length; q++) {
                alike += counts[p] == counts[q] ? 1 : 0;
            }
        }
        return alike;
    }

    private boolean keepsBars(int town) {
        int k = 0;
        for (int p = 0; p < n; p++) {
            for (int q = p + 1; q < n; q++) {
                if (bars[p][q] != 0 && (town >> k & 1) != bars[p][q] - 1) {
                    return false;
                }
                k++;
            }
        }
        return true;
    }

    private int price(int town) {
        int now = number();
        return m * Integer.bitCount(town & ~now) + d * Integer.bitCount(now & ~town);
    }

    private void resay() {
        said = Arrays.copyOf(counts(n, number()), 8);
    }
}
