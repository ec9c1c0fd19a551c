/**
 * A town of people and friendships in which no two should have as many friends.
 * The document's promises are named by their numbers (P1 .. P33).
 */
public final class UnlikeCounts {
    public static final int NONE = -1, UNKNOWN = -1000000001, OUTSIDE = -1000000002, NOT = -1000000003, FULL = -1000000004;

    private static final int MOST_PERSONS = 8;
    private static final int MOST_SEARCHED = 6;
    private static final int MOST_BYTES = 400;
    private static final int MOST_DAYS = 30;
    private static final int MOST_WEIGHED = 8;
    private static final int MOST_WEIGHT = 4;
    private static final int MOST_TOLD = 7;
    private static final int MOST_SIDE = 4;
    private static final int MOST_SORTED = 5;
    private static final int MOST_WEEKS = 99;

    private static final int FREE = 0;
    private static final int BARRED = 1;
    private static final int MUST = 2;

    private final Town now = new Town();
    private final Town trial = new Town();
    private final Telling telling = new Telling();
    private final Maker maker = new Maker();
    private final Search search = new Search();
    private final Weigher weigher = new Weigher();
    private final Ways ways = new Ways();
    private final Book book = new Book();
    private final Image imageZero = new Image();
    private final Image imageOne = new Image();
    private int seedNow;

    /** P1. */
    public UnlikeCounts() {
        // Every part begins empty by itself.
    }

    // ---- the town

    /** P2. */
    public int feed(int n, long bytes) {
        if (n < 1 || n > 8) {
            return OUTSIDE;
        }
        if (telling.length() + n > MOST_BYTES) {
            return FULL;
        }
        telling.append(n, bytes);
        return telling.length();
    }

    /** P3. */
    public int town() {
        telling.read();
        if (telling.faultKind() != 0) {
            return -10 - telling.faultKind();
        }
        now.copyFrom(telling.draftTown());
        now.sayCounts();
        book.empty();
        imageZero.kept = false;
        imageOne.kept = false;
        return now.size;
    }

    /** P4. */
    public int fault() {
        return telling.faultPlace();
    }

    /** P5. */
    public int told(int what) {
        switch (what) {
            case 0:
                return now.size;
            case 1:
                return now.friendships();
            case 2:
                return now.asNumber(now.ties);
            case 3:
                return now.asNumber(now.bars);
            case 4:
                return now.asNumber(now.musts);
            case 5:
                return now.makeCost;
            case 6:
                return now.dropCost;
            case 7:
                return now.alikePairs();
            case 8:
                return now.size > 1 && now.alikePairs() == 1 ? 1 : 0;
            case 9:
                return telling.length();
            case 10:
                return book.days;
            default:
                return OUTSIDE;
        }
    }

    /** P6. */
    public int count(int p) {
        return now.has(p) ? now.countOf(p) : UNKNOWN;
    }

    /** P7. */
    public int friends(int p) {
        return now.has(p) ? now.ties[p] : UNKNOWN;
    }

    /** P8. */
    public int alike(int p) {
        return now.has(p) ? now.alikeWith(p) : UNKNOWN;
    }

    /** P9. */
    public int pair(int p, int q) {
        return now.hasTwo(p, q) ? now.pairNumber(p, q) : UNKNOWN;
    }

    // ---- changes

    /** P10. */
    public int tie(int p, int q, boolean is) {
        if (!now.hasTwo(p, q)) {
            return UNKNOWN;
        }
        if (!now.allows(p, q, is)) {
            return NOT;
        }
        boolean was = now.areFriends(p, q);
        now.mark(now.ties, p, q, is);
        return was == is ? 0 : 1;
    }

    /** P11. */
    public int bar(int p, int q, int v) {
        if (!now.hasTwo(p, q)) {
            return UNKNOWN;
        }
        if (v < FREE || v > MUST) {
            return OUTSIDE;
        }
        int was = now.barOf(p, q);
        now.setBar(p, q, v);
        return was;
    }

    /** P12. */
    public int birth() {
        if (now.size >= MOST_PERSONS) {
            return FULL;
        }
        now.addPerson();
        return now.size - 1;
    }

    /** P13. */
    public int death(int p) {
        if (!now.has(p)) {
            return UNKNOWN;
        }
        now.removePerson(p);
        return now.size;
    }

    // ---- good towns

    /** P14. */
    public int made(int n, int way, int i, int j) {
        if (n < 2 || n > MOST_PERSONS || way < 0 || way > 1) {
            return OUTSIDE;
        }
        if (i < 0 || i >= n || j < 0 || j >= n || i == j) {
            return OUTSIDE;
        }
        return placesTied(n, way, i, j) ? 1 : 0;
    }

    /** P15. */
    public int good(int p) {
        if (p < -3 || p >= now.size) {
            return UNKNOWN;
        }
        if (now.size < 2) {
            return NOT;
        }
        maker.solve(now);
        if (maker.price == NONE) {
            return NONE;
        }
        switch (p) {
            case NONE:
                return maker.price;
            case -2:
                return maker.way;
            case -3:
                return maker.townMade();
            default:
                return maker.placeOf(p);
        }
    }

    /** P16. */
    public int born() {
        if (now.size < 1 || now.size >= MOST_PERSONS) {
            return NOT;
        }
        trial.copyFrom(now);
        trial.addPerson();
        maker.solve(trial);
        return maker.price;
    }

    /** P17. */
    public int dies(int p) {
        if (!now.has(p)) {
            return UNKNOWN;
        }
        if (now.size < 3) {
            return NOT;
        }
        trial.copyFrom(now);
        trial.removePerson(p);
        maker.solve(trial);
        return maker.price;
    }

    /** P18. */
    public int nearest(int what) {
        if (what < 0 || what > 2) {
            return OUTSIDE;
        }
        if (now.size > MOST_SEARCHED) {
            return NOT;
        }
        search.findNearest(now);
        switch (what) {
            case 0:
                return search.bestAlike;
            case 1:
                return search.bestPrice;
            default:
                return search.bestTown;
        }
    }

    /** P19. */
    public int even(int d, int what) {
        if (d < 0 || d > 5 || what < 0 || what > 1) {
            return OUTSIDE;
        }
        if (now.size > MOST_SEARCHED) {
            return NOT;
        }
        search.findEven(now, d);
        return what == 0 ? search.bestPrice : search.bestTown;
    }

    // ---- counts told

    /** P20. */
    public int tell(int p, int v) {
        if (!now.has(p)) {
            return UNKNOWN;
        }
        if (v < 0 || v > MOST_TOLD) {
            return OUTSIDE;
        }
        int was = now.saids[p];
        now.saids[p] = v;
        return was;
    }

    /** P21. */
    public int canBe() {
        if (now.size > MOST_SEARCHED) {
            return NOT;
        }
        search.findTold(now, 0);
        return search.towns;
    }

    /** P22. */
    public int sure(int p, int what) {
        if (!now.has(p)) {
            return UNKNOWN;
        }
        if (what < 0 || what > 1) {
            return OUTSIDE;
        }
        if (now.size > MOST_SEARCHED) {
            return NOT;
        }
        search.findTold(now, 0);
        if (search.towns == 0) {
            return 0;
        }
        return now.friendsIn(what == 0 ? search.inAll : search.inSome, p);
    }

    /** P23. */
    public int liar() {
        if (now.size > MOST_SEARCHED) {
            return NOT;
        }
        search.findTold(now, 1);
        return search.towns > 0 ? 0 : search.liars;
    }

    // ---- weights, sides, sorts

    /** P24. */
    public int weight(int p, int q) {
        if (p != NONE && !now.hasTwo(p, q)) {
            return UNKNOWN;
        }
        if (now.friendships() > MOST_WEIGHED) {
            return NOT;
        }
        weigher.solve(now);
        if (p == NONE || weigher.least == NONE) {
            return weigher.least;
        }
        return weigher.weightOf(p, q);
    }

    /** P25. */
    public int sides(int a, int b) {
        if (a < 1 || a > MOST_SIDE || b < 1 || b > MOST_SIDE) {
            return OUTSIDE;
        }
        return ways.acrossSides(a, b);
    }

    /** P26. */
    public int sorts(int n) {
        if (n < 1 || n > MOST_SORTED) {
            return OUTSIDE;
        }
        return ways.ofTwoSorts(n);
    }

    // ---- books, draws, images

    /** P27. */
    public int write(int p, int q, boolean made) {
        if (!now.hasTwo(p, q)) {
            return UNKNOWN;
        }
        if (book.days >= MOST_DAYS) {
            return FULL;
        }
        book.add(p, q, made);
        return book.days;
    }

    /** P28. */
    public int tear() {
        int had = book.days;
        book.empty();
        return had;
    }

    /** P29. */
    public int judge(int what) {
        if (what < 0 || what > 1) {
            return OUTSIDE;
        }
        trial.copyFrom(now);
        int wrong = book.tryOn(trial);
        return what == 0 ? wrong : trial.alikePairs();
    }

    /** P30. */
    public int drift(int n) {
        if (n < 1 || n > MOST_WEEKS) {
            return OUTSIDE;
        }
        if (now.size < 1) {
            return NOT;
        }
        for (int week = 0; week < n; week++) {
            liveWeek();
        }
        return now.asNumber(now.ties);
    }

    /** P31. */
    public int seed(int v) {
        if (v < 0) {
            return OUTSIDE;
        }
        int was = seedNow;
        seedNow = v;
        return was;
    }

    /** P32. */
    public int keep(int i) {
        if (i < 0 || i > 1) {
            return UNKNOWN;
        }
        Image image = i == 0 ? imageZero : imageOne;
        image.town.copyFrom(now);
        image.seedThen = seedNow;
        image.kept = true;
        return 1;
    }

    /** P33. */
    public int goBack(int i) {
        if (i < 0 || i > 1) {
            return UNKNOWN;
        }
        Image image = i == 0 ? imageZero : imageOne;
        if (!image.kept) {
            return NOT;
        }
        now.copyFrom(image.town);
        seedNow = image.seedThen;
        return 1;
    }

    private void liveWeek() {
        int event = draw(8);
        if (event == 0) {
            if (now.size < MOST_PERSONS) {
                now.addPerson();
            }
        } else if (event == 1) {
            if (now.size > 1) {
                now.removePerson(draw(now.size));
            }
        } else if (now.size > 1) {
            changePair(draw(now.size * (now.size - 1) / 2));
        }
    }

    private void changePair(int number) {
        int p = 0;
        int first = 0;
        while (p < now.size - 2 && number >= first + now.size - 1 - p) {
            first += now.size - 1 - p;
            p++;
        }
        int q = p + 1 + number - first;
        if (!now.hasTwo(p, q)) {
            return;
        }
        boolean is = !now.areFriends(p, q);
        if (now.allows(p, q, is)) {
            now.mark(now.ties, p, q, is);
        }
    }

    private int draw(int n) {
        // Wrapping is harmless: what is left over by 2 to the 31 is the low bits.
        seedNow = (seedNow * 1103515245 + 12345) & 0x7fffffff;
        return n > 0 ? seedNow / 65536 % n : 0;
    }

    private static boolean placesTied(int n, int way, int i, int j) {
        return (i + j >= n) == (way == 0);
    }

    /** Persons, friendships, bars, counts told; rows are SETS, a person each, empty behind the last person. */
    private static final class Town {
        private int size;
        private int makeCost = 1;
        private int dropCost = 1;
        private final int[] ties = new int[MOST_PERSONS];
        private final int[] bars = new int[MOST_PERSONS];
        private final int[] musts = new int[MOST_PERSONS];
        private final int[] saids = new int[MOST_PERSONS];

        void clear() {
            size = 0;
            makeCost = 1;
            dropCost = 1;
            for (int p = 0; p < MOST_PERSONS; p++) {
                forget(p);
            }
        }

        private void forget(int p) {
            ties[p] = 0;
            bars[p] = 0;
            musts[p] = 0;
            saids[p] = 0;
        }

        void copyFrom(Town other) {
            size = other.size;
            makeCost = other.makeCost;
            dropCost = other.dropCost;
            for (int p = 0; p < MOST_PERSONS; p++) {
                ties[p] = other.ties[p];
                bars[p] = other.bars[p];
                musts[p] = other.musts[p];
                saids[p] = other.saids[p];
            }
        }

        boolean has(int p) {
            return p >= 0 && p < size;
        }

        boolean hasTwo(int p, int q) {
            return has(p) && has(q) && p != q;
        }

        boolean areFriends(int p, int q) {
            return (ties[p] >> q & 1) == 1;
        }

        int countOf(int p) {
            return Integer.bitCount(ties[p]);
        }

        int friendships() {
            int twice = 0;
            for (int p = 0; p < size; p++) {
                twice += countOf(p);
            }
            return twice / 2;
        }

        int pairNumber(int p, int q) {
            int low = Math.min(p, q);
            int high = Math.max(p, q);
            return low * (2 * size - low - 1) / 2 + high - low - 1;
        }

        int asNumber(int[] rows) {
            int number = 0;
            int bit = 1;
            for (int p = 0; p < size; p++) {
                for (int q = p + 1; q < size; q++) {
                    if ((rows[p] >> q & 1) == 1) {
                        number |= bit;
                    }
                    bit <<= 1;
                }
            }
            return number;
        }

        int friendsIn(int number, int p) {
            int friends = 0;
            for (int q = 0; q < size; q++) {
                if (q != p && (number >> pairNumber(p, q) & 1) == 1) {
                    friends |= 1 << q;
                }
            }
            return friends;
        }

        int alikeWith(int p) {
            int others = 0;
            for (int q = 0; q < size; q++) {
                if (q != p && countOf(q) == countOf(p)) {
                    others |= 1 << q;
                }
            }
            return others;
        }

        int alikePairs() {
            int twice = 0;
            for (int p = 0; p < size; p++) {
                twice += Integer.bitCount(alikeWith(p));
            }
            return twice / 2;
        }

        void mark(int[] rows, int p, int q, boolean is) {
            if (is) {
                rows[p] |= 1 << q;
                rows[q] |= 1 << p;
            } else {
                rows[p] &= ~(1 << q);
                rows[q] &= ~(1 << p);
            }
        }

        int barOf(int p, int q) {
            if ((bars[p] >> q & 1) == 1) {
                return BARRED;
            }
            return (musts[p] >> q & 1) == 1 ? MUST : FREE;
        }

        void setBar(int p, int q, int v) {
            mark(bars, p, q, v == BARRED);
            mark(musts, p, q, v == MUST);
            if (v != FREE) {
                mark(ties, p, q, v == MUST);
            }
        }

        boolean allows(int p, int q, boolean is) {
            return barOf(p, q) != (is ? BARRED : MUST);
        }

        /** Needs a free place: the callers look at the size. */
        void addPerson() {
            if (size < MOST_PERSONS) {
                size++;
                sayCounts();
            }
        }

        void removePerson(int p) {
            if (!has(p)) {
                return;
            }
            closeGap(ties, p);
            closeGap(bars, p);
            closeGap(musts, p);
            size--;
            forget(size);
            sayCounts();
        }

        private void closeGap(int[] rows, int p) {
            for (int q = p; q < size - 1; q++) {
                rows[q] = rows[q + 1];
            }
            int below = (1 << p) - 1;
            for (int q = 0; q < size - 1; q++) {
                rows[q] = rows[q] & below | rows[q] >> 1 & ~below;
            }
        }

        void sayCounts() {
            for (int p = 0; p < size; p++) {
                saids[p] = countOf(p);
            }
        }
    }

    /** THE TEXT, and the reading of it. */
    private static final class Telling {
        private static final int NO_WORD = 0;
        private static final int PEOPLE = 1;
        private static final int FRIENDS = 2;
        private static final int BARRED_TWO = 3;
        private static final int MUST_TWO = 4;
        private static final int COST = 5;

        private static final int CANNOT_STAND = 1;
        private static final int BAD_NUMBER = 2;
        private static final int CLAUSE_AGAIN = 3;
        private static final int TWO_AGAIN = 4;

        private final byte[] bytes = new byte[MOST_BYTES];
        private final Town draft = new Town();
        private int length;
        private int at;
        private boolean costKnown;
        private int faultKind;
        private int faultPlace = NONE;

        int length() {
            return length;
        }

        Town draftTown() {
            return draft;
        }

        /** 0: the latest text had no fault. */
        int faultKind() {
            return faultKind;
        }

        int faultPlace() {
            return faultPlace;
        }

        void append(int n, long word) {
            for (int k = n - 1; k >= 0 && length < MOST_BYTES; k--) {
                bytes[length] = (byte) (word >> 8 * k);
                length++;
            }
        }

        /** Reads the text into the draft, or finds its first fault; the text is empty then. */
        void read() {
            at = 0;
            costKnown = false;
            faultKind = 0;
            faultPlace = NONE;
            draft.clear();
            skipBlanks();
            for (int clause = 0; clause < MOST_BYTES && at < length && faultKind == 0; clause++) {
                readClause();
                skipBlanks();
            }
            length = 0;
        }

        private void readClause() {
            int start = at;
            int word = readWord();
            int kind = wordFault(word);
            if (kind != 0) {
                blame(kind, start);
                return;
            }
            if (word == PEOPLE) {
                readPeople();
            } else if (word == COST) {
                readCost();
            } else {
                readTwo(word);
            }
            if (faultKind == 0) {
                readEnd();
            }
        }

        private int wordFault(int word) {
            if (word == NO_WORD) {
                return CANNOT_STAND;
            }
            boolean peopleKnown = draft.size > 0;
            if (!peopleKnown) {
                return word == PEOPLE ? 0 : CANNOT_STAND;
            }
            return word == PEOPLE || word == COST && costKnown ? CLAUSE_AGAIN : 0;
        }

        private void readPeople() {
            int n = readNumber(1, MOST_PERSONS);
            if (faultKind == 0) {
                draft.size = n;
            }
        }

        private void readCost() {
            int makes = readNumber(1, 9);
            if (faultKind != 0) {
                return;
            }
            int drops = readNumber(1, 9);
            if (faultKind == 0) {
                draft.makeCost = makes;
                draft.dropCost = drops;
                costKnown = true;
            }
        }

        private void readTwo(int word) {
            int p = readNumber(0, draft.size - 1);
            if (faultKind != 0) {
                return;
            }
            skipBlanks();
            int start = at;
            int q = readNumber(0, draft.size - 1);
            if (faultKind != 0) {
                return;
            }
            if (!draft.hasTwo(p, q) || draft.areFriends(p, q) || draft.barOf(p, q) != FREE) {
                blame(TWO_AGAIN, start);
            } else if (word == FRIENDS) {
                draft.mark(draft.ties, p, q, true);
            } else {
                draft.setBar(p, q, word == MUST_TWO ? MUST : BARRED);
            }
        }

        private void readEnd() {
            skipBlanks();
            if (at < length && bytes[at] == ';') {
                at++;
            } else {
                blame(CANNOT_STAND, at);
            }
        }

        private int readWord() {
            int start = at;
            while (at < length && bytes[at] >= 'a' && bytes[at] <= 'z') {
                at++;
            }
            if (stands("people", start)) {
                return PEOPLE;
            }
            if (stands("friends", start)) {
                return FRIENDS;
            }
            if (stands("barred", start)) {
                return BARRED_TWO;
            }
            if (stands("must", start)) {
                return MUST_TWO;
            }
            return stands("cost", start) ? COST : NO_WORD;
        }

        private boolean stands(String word, int start) {
            if (at - start != word.length()) {
                return false;
            }
            for (int k = 0; k < word.length(); k++) {
                if (bytes[start + k] != word.charAt(k)) {
                    return false;
                }
            }
            return true;
        }

        private int readNumber(int least, int most) {
            skipBlanks();
            int start = at;
            int value = 0;
            while (at < length && bytes[at] >= '0' && bytes[at] <= '9') {
                if (at - start < 3) {
                    value = value * 10 + bytes[at] - '0';
                }
                at++;
            }
            if (at == start) {
                blame(CANNOT_STAND, start);
            } else if (at - start > 3 || value < least || value > most) {
                blame(BAD_NUMBER, start);
            }
            return value;
        }

        private void skipBlanks() {
            while (at < length && bytes[at] == ' ') {
                at++;
            }
        }

        private void blame(int kind, int place) {
            faultKind = kind;
            faultPlace = place;
        }
    }

    /**
     * TO MAKE GOOD. Place 0, the last place, place 1, the last but one, .. are by turns friends of none
     * or of all that come behind them in this row: so the best for a SET that is still to be placed
     * follows from the best for the SETS with one person less.
     */
    private static final class Maker {
        private static final int PLACE_BITS = 3;
        private static final int ROW_BITS = PLACE_BITS * MOST_PERSONS;
        private static final long NEVER = 1L << 62;

        /** By SET: the price, and behind it the row of places, person 0's highest; it is least for the first row. */
        private final long[] least = new long[1 << MOST_PERSONS];
        private int size;
        private int price;
        private int way;
        private long places;

        void solve(Town town) {
            size = town.size;
            long first = leastByWay(town, 0);
            long second = leastByWay(town, 1);
            way = second >> ROW_BITS < first >> ROW_BITS ? 1 : 0;
            long best = way == 0 ? first : second;
            price = best == NEVER ? NONE : (int) (best >> ROW_BITS);
            places = best & (1L << ROW_BITS) - 1;
        }

        int placeOf(int p) {
            return (int) (places >> shiftOf(p)) & (1 << PLACE_BITS) - 1;
        }

        int townMade() {
            int number = 0;
            int bit = 1;
            for (int p = 0; p < size; p++) {
                for (int q = p + 1; q < size; q++) {
                    if (placesTied(size, way, placeOf(p), placeOf(q))) {
                        number |= bit;
                    }
                    bit <<= 1;
                }
            }
            return number;
        }

        private static int shiftOf(int p) {
            return PLACE_BITS * (MOST_PERSONS - 1 - p);
        }

        private long leastByWay(Town town, int byWay) {
            least[0] = 0;
            int all = (1 << size) - 1;
            for (int set = 1; set <= all; set++) {
                int placed = size - Integer.bitCount(set);
                int place = placed % 2 == 0 ? placed / 2 : size - 1 - placed / 2;
                boolean friendly = (placed + byWay) % 2 == 1;
                long best = NEVER;
                for (int p = 0; p < size; p++) {
                    if ((set >> p & 1) == 1) {
                        best = Math.min(best, withNext(town, p, set & ~(1 << p), friendly, place));
                    }
                }
                least[set] = best;
            }
            return least[all];
        }

        private long withNext(Town town, int p, int rest, boolean friendly, int place) {
            int hindrance = friendly ? town.bars[p] : town.musts[p];
            if ((hindrance & rest) != 0 || least[rest] == NEVER) {
                return NEVER;
            }
            long changes = friendly
                    ? town.makeCost * Integer.bitCount(rest & ~town.ties[p])
                    : town.dropCost * Integer.bitCount(rest & town.ties[p]);
            return least[rest] + (changes << ROW_BITS) + ((long) place << shiftOf(p));
        }
    }

    /**
     * Looks through the towns of six persons at most, person by person: each time the pairs of one with
     * those behind it are settled, and with them its count.
     */
    private static final class Search {
        private static final int ENDLESS = 1000000;

        private final int[] pairsOf = new int[MOST_SEARCHED];
        private final int[] rowStart = new int[MOST_SEARCHED + 1];
        private final int[] saids = new int[MOST_SEARCHED];
        private int size;
        private int makeCost;
        private int dropCost;
        private int ties;
        private int bars;
        private int musts;
        private int mostOff;

        private int bestAlike;
        private int bestPrice;
        private int bestTown;
        private int towns;
        private int inAll;
        private int inSome;
        private int liars;

        void findNearest(Town town) {
            begin(town);
            nearestFrom(this, 0, 0, 0);
        }

        /** NONE as price and town, if there is none. */
        void findEven(Town town, int degree) {
            begin(town);
            evenFrom(this, 0, 0, degree);
            if (bestPrice == ENDLESS) {
                bestPrice = NONE;
                bestTown = NONE;
            }
        }

        /** Off: counts that are not as told; a town with more of these than `most` is not looked at. */
        void findTold(Town town, int most) {
            begin(town);
            mostOff = most;
            toldFrom(this, 0, 0, 0);
        }

        private void begin(Town town) {
            size = Math.min(town.size, MOST_SEARCHED);
            makeCost = town.makeCost;
            dropCost = town.dropCost;
            for (int p = 0; p < size; p++) {
                saids[p] = town.saids[p];
            }
            ties = town.asNumber(town.ties);
            bars = town.asNumber(town.bars);
            musts = town.asNumber(town.musts);
            bestAlike = ENDLESS;
            bestPrice = ENDLESS;
            bestTown = ENDLESS;
            towns = 0;
            inAll = -1;
            inSome = 0;
            liars = 0;
            layOutPairs();
        }

        private void layOutPairs() {
            for (int p = 0; p < size; p++) {
                pairsOf[p] = 0;
            }
            int number = 0;
            for (int p = 0; p < size; p++) {
                rowStart[p] = number;
                for (int q = p + 1; q < size; q++) {
                    pairsOf[p] |= 1 << number;
                    pairsOf[q] |= 1 << number;
                    number++;
                }
            }
            rowStart[size] = number;
        }

        private static void nearestFrom(Search s, int p, int town, int alike) {
            if (p >= s.size) {
                s.take(town, alike);
                return;
            }
            int rows = s.rowsOf(p);
            for (int row = 0; row < rows; row++) {
                int next = town | row << s.rowStart[p];
                if (s.keepsBars(next, p)) {
                    int more = alike + s.alikeBelow(next, p);
                    if (s.canWin(next, p, more)) {
                        nearestFrom(s, p + 1, next, more);
                    }
                }
            }
        }

        private static void evenFrom(Search s, int p, int town, int degree) {
            if (p >= s.size) {
                s.take(town, 0);
                return;
            }
            int rows = s.rowsOf(p);
            for (int row = 0; row < rows; row++) {
                int next = town | row << s.rowStart[p];
                if (s.countIn(next, p) == degree && s.keepsBars(next, p) && s.priceTo(next, p) <= s.bestPrice) {
                    evenFrom(s, p + 1, next, degree);
                }
            }
        }

        private static void toldFrom(Search s, int p, int town, int off) {
            if (p >= s.size) {
                s.noteTold(town, off);
                return;
            }
            int rows = s.rowsOf(p);
            for (int row = 0; row < rows; row++) {
                int next = town | row << s.rowStart[p];
                int nextOff = s.countIn(next, p) == s.saids[p] ? off : off | 1 << p;
                if (Integer.bitCount(nextOff) <= s.mostOff) {
                    toldFrom(s, p + 1, next, nextOff);
                }
            }
        }

        /** How many ways there are to settle p with those behind it. */
        private int rowsOf(int p) {
            return 1 << size - 1 - p;
        }

        private void noteTold(int town, int off) {
            if (off == 0) {
                towns++;
                inAll &= town;
                inSome |= town;
            } else {
                liars |= off;
            }
        }

        private void take(int town, int alike) {
            int price = priceTo(town, size - 1);
            boolean better = alike < bestAlike
                    || alike == bestAlike && (price < bestPrice || price == bestPrice && town < bestTown);
            if (better) {
                bestAlike = alike;
                bestPrice = price;
                bestTown = town;
            }
        }

        private boolean canWin(int town, int p, int alike) {
            // Two or more persons never have all counts unlike.
            int atLeast = size > 1 ? Math.max(alike, 1) : alike;
            return atLeast < bestAlike || atLeast == bestAlike && priceTo(town, p) <= bestPrice;
        }

        private int countIn(int town, int p) {
            return Integer.bitCount(town & pairsOf[p]);
        }

        private int alikeBelow(int town, int p) {
            int alike = 0;
            for (int q = 0; q < p; q++) {
                if (countIn(town, q) == countIn(town, p)) {
                    alike++;
                }
            }
            return alike;
        }

        /** The pairs that are settled, when those of p are. */
        private int settled(int p) {
            return p < 0 ? 0 : (1 << rowStart[p + 1]) - 1;
        }

        private boolean keepsBars(int town, int p) {
            return (town & bars) == 0 && (musts & settled(p) & ~town) == 0;
        }

        private int priceTo(int town, int p) {
            int changed = (town ^ ties) & settled(p);
            return makeCost * Integer.bitCount(changed & town) + dropCost * Integer.bitCount(changed & ties);
        }
    }

    /** WEIGHTS: friendships by their numbers, the lesser weight first, so the first row that fits is the one. */
    private static final class Weigher {
        private final int[] first = new int[MOST_WEIGHED];
        private final int[] second = new int[MOST_WEIGHED];
        private final int[] weights = new int[MOST_WEIGHED];
        /** By friendship: the SET of those who have no later one, whose sums are final with it. */
        private final int[] ended = new int[MOST_WEIGHED];
        private final int[] sums = new int[MOST_PERSONS];
        private int edges;
        private int least;

        void solve(Town town) {
            listFriendships(town);
            int friendless = 0;
            for (int p = 0; p < town.size; p++) {
                sums[p] = 0;
                if (town.ties[p] == 0) {
                    friendless++;
                }
            }
            least = NONE;
            // One friendless person differs from all others anyway; two never differ.
            for (int most = 1; most <= MOST_WEIGHT && friendless < 2 && least == NONE; most++) {
                if (weighFrom(this, 0, most, 0)) {
                    least = most;
                }
            }
        }

        int weightOf(int p, int q) {
            int low = Math.min(p, q);
            int high = Math.max(p, q);
            for (int k = 0; k < edges; k++) {
                if (first[k] == low && second[k] == high) {
                    return weights[k];
                }
            }
            return 0;
        }

        private void listFriendships(Town town) {
            edges = 0;
            for (int p = 0; p < town.size; p++) {
                for (int q = p + 1; q < town.size && edges < MOST_WEIGHED; q++) {
                    if (town.areFriends(p, q)) {
                        first[edges] = p;
                        second[edges] = q;
                        weights[edges] = 0;
                        edges++;
                    }
                }
            }
            int later = 0;
            for (int k = edges - 1; k >= 0; k--) {
                int two = 1 << first[k] | 1 << second[k];
                ended[k] = two & ~later;
                later |= two;
            }
        }

        private static boolean weighFrom(Weigher s, int k, int most, int settled) {
            if (k >= s.edges) {
                return true;
            }
            int among = settled | s.ended[k];
            for (int w = 1; w <= most; w++) {
                s.putWeight(k, w);
                if (s.sumsDiffer(s.ended[k], among) && weighFrom(s, k + 1, most, among)) {
                    return true;
                }
            }
            s.putWeight(k, 0);
            return false;
        }

        private void putWeight(int k, int w) {
            int more = w - weights[k];
            sums[first[k]] += more;
            sums[second[k]] += more;
            weights[k] = w;
        }

        private boolean sumsDiffer(int fresh, int among) {
            for (int p = 0; p < MOST_PERSONS; p++) {
                if ((fresh >> p & 1) == 1 && hasTwin(p, among & ~(1 << p))) {
                    return false;
                }
            }
            return true;
        }

        private boolean hasTwin(int p, int among) {
            for (int q = 0; q < MOST_PERSONS; q++) {
                if ((among >> q & 1) == 1 && sums[q] == sums[p]) {
                    return true;
                }
            }
            return false;
        }
    }

    /** SIDES and TWO SORTS depend on nothing but their numbers: each is counted once and remembered. */
    private static final class Ways {
        private static final int SIDE_BITS = 4;
        private static final int SORT_BITS = 3;
        private static final int BOTH_BITS = 2 * SORT_BITS;

        private final int[] across = new int[(MOST_SIDE + 1) * (MOST_SIDE + 1)];
        private final int[] sorted = new int[MOST_SORTED + 1];

        Ways() {
            for (int k = 0; k < across.length; k++) {
                across[k] = NONE;
            }
            for (int k = 0; k < sorted.length; k++) {
                sorted[k] = NONE;
            }
        }

        int acrossSides(int a, int b) {
            int k = a * (MOST_SIDE + 1) + b;
            if (across[k] == NONE) {
                across[k] = acrossFrom(0, a, b, 0, 0);
            }
            return across[k];
        }

        int ofTwoSorts(int n) {
            if (sorted[n] == NONE) {
                sorted[n] = sortedFrom(n, 0, 1, 0);
            }
            return sorted[n];
        }

        /** used: the SET of counts on side a so far; counts: those on side b, some bits each. */
        private static int acrossFrom(int i, int a, int b, int used, int counts) {
            if (i >= a) {
                return allUnlike(counts, b, SIDE_BITS) ? 1 : 0;
            }
            int sum = 0;
            for (int row = 0; row < 1 << b; row++) {
                int count = Integer.bitCount(row);
                if ((used >> count & 1) == 0) {
                    sum += acrossFrom(i + 1, a, b, used | 1 << count, counts + spread(row, b));
                }
            }
            return sum;
        }

        private static int spread(int row, int b) {
            int counts = 0;
            for (int j = 0; j < b; j++) {
                counts |= (row >> j & 1) << SIDE_BITS * j;
            }
            return counts;
        }

        /** The ways to tie p with q and all pairs behind these; counts: of both sorts, some bits each person. */
        private static int sortedFrom(int n, int p, int q, int counts) {
            if (p >= n - 1) {
                return unlikeBelow(counts, p, BOTH_BITS) ? 1 : 0;
            }
            if (q >= n) {
                return unlikeBelow(counts, p, BOTH_BITS) ? sortedFrom(n, p + 1, p + 2, counts) : 0;
            }
            int one = (1 << BOTH_BITS * p) + (1 << BOTH_BITS * q);
            return sortedFrom(n, p, q + 1, counts)
                    + sortedFrom(n, p, q + 1, counts + one)
                    + sortedFrom(n, p, q + 1, counts + (one << SORT_BITS));
        }

        private static boolean allUnlike(int counts, int n, int bits) {
            for (int p = 1; p < n; p++) {
                if (!unlikeBelow(counts, p, bits)) {
                    return false;
                }
            }
            return true;
        }

        private static boolean unlikeBelow(int counts, int p, int bits) {
            int mask = (1 << bits) - 1;
            for (int q = 0; q < p; q++) {
                if ((counts >> bits * q & mask) == (counts >> bits * p & mask)) {
                    return false;
                }
            }
            return true;
        }
    }

    /** THE BOOK: its days name persons by number, whoever has it when the book is tried. */
    private static final class Book {
        private final int[] first = new int[MOST_DAYS];
        private final int[] second = new int[MOST_DAYS];
        private final boolean[] made = new boolean[MOST_DAYS];
        private int days;

        void empty() {
            days = 0;
        }

        void add(int p, int q, boolean friends) {
            if (days < MOST_DAYS) {
                first[days] = p;
                second[days] = q;
                made[days] = friends;
                days++;
            }
        }

        /** Changes the town by the days before the first wrong one: that one, or NONE. */
        int tryOn(Town town) {
            for (int day = 0; day < days; day++) {
                int p = first[day];
                int q = second[day];
                if (!town.hasTwo(p, q) || !town.allows(p, q, made[day])) {
                    return day;
                }
                town.mark(town.ties, p, q, made[day]);
            }
            return NONE;
        }
    }

    private static final class Image {
        private final Town town = new Town();
        private int seedThen;
        private boolean kept;
    }
}
