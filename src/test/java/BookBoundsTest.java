/** THE BOOK, BY DRAWS and IMAGES at their bounds, sentence by sentence of the document (promises 27 to 33). */
public final class BookBoundsTest {
    private static final int NONE = UnlikeCounts.NONE;
    private static final int UNKNOWN = UnlikeCounts.UNKNOWN;
    private static final int OUTSIDE = UnlikeCounts.OUTSIDE;
    private static final int NOT = UnlikeCounts.NOT;
    private static final int FULL = UnlikeCounts.FULL;

    private static final int GREATEST = 2147483647;

    private static final Due DUE = new Due("BookBoundsTest");

    public static void main(String[] args) {
        thirtyDays();
        daysOfTwoPersons();
        tornEmpty();
        judgedEmpty();
        wrongFirstDay();
        wrongLastDay();
        wrongByNoPersonNow();
        wrongByBarsOfNow();
        judgedFromNow();
        bookStaysAtGoBack();
        seedsZeroToGreatest();
        drawsWrapAround();
        weeksOneTo99();
        manyWeeksAreSingleWeeks();
        aBirthToEight();
        aDeathToOne();
        deathOfFirstAndLast();
        aChangeNeedsTwo();
        changeOfFirstAndLastPair();
        barsHoldInAChange();
        toldInADrift();
        neverNoneNeverNine();
        imagesZeroAndOne();
        imageOfNoPersons();
        imageOfFewAndOfMany();
        imageKeptAgain();
        imagesGoneWithATown();
        DUE.end();
    }

    private static void due(String call, long got, long want) {
        DUE.is(call, got, want);
    }

    private static UnlikeCounts told(String text) {
        UnlikeCounts x = new UnlikeCounts();
        DUE.holds("town() of " + text, Due.townOf(x, text) >= 0);
        return x;
    }

    private static UnlikeCounts people(int n) {
        return told(n == 0 ? "" : "people " + n + ";");
    }

    // ---- P27: "A day behind THE BOOK: two made friends, or quarrelled: how many. UNKNOWN, FULL (30)."

    private static void thirtyDays() {
        UnlikeCounts x = told("people 2;barred 0 1;");
        for (int day = 1; day <= 30; day++) {
            due("a day", x.write(day % 2, 1 - day % 2, day % 3 == 0), day);
            due("told(10)", x.told(10), day);
        }
        due("day 31, made", x.write(0, 1, true), FULL);
        due("day 31, quarrelled", x.write(0, 1, false), FULL);
        due("day 31 of one twice", x.write(1, 1, false), UNKNOWN);
        due("day 31 of no person", x.write(0, 2, false), UNKNOWN);
        due("told(10)", x.told(10), 30);
        due("tear()", x.tear(), 30);
        due("room again", x.write(0, 1, true), 1);
    }

    private static void daysOfTwoPersons() {
        for (int n = 0; n <= 8; n++) {
            UnlikeCounts x = people(n);
            due("one twice", x.write(0, 0, true), UNKNOWN);
            due("q is N", x.write(0, n, true), UNKNOWN);
            due("p is N", x.write(n, 0, true), UNKNOWN);
            due("q is -1", x.write(0, -1, true), UNKNOWN);
            due("p is -1", x.write(-1, 0, true), UNKNOWN);
            due("no days", x.told(10), 0);
            if (n > 1) {
                due("first and last", x.write(0, n - 1, true), 1);
                due("last and first", x.write(n - 1, 0, true), 2);
            }
        }
    }

    // ---- P28: "THE BOOK is empty: how many days it had."

    private static void tornEmpty() {
        UnlikeCounts x = people(2);
        due("none", x.tear(), 0);
        x.write(0, 1, true);
        due("one", x.tear(), 1);
        due("none again", x.tear(), 0);
        due("told(10)", x.told(10), 0);
        due("of no persons", new UnlikeCounts().tear(), 0);
    }

    // ---- P29: "what = 0 WRONG (NONE), 1 pairs ALIKE behind the last day tried (WRONG itself not). OUTSIDE."

    private static void judgedEmpty() {
        for (int n = 0; n <= 8; n++) {
            UnlikeCounts x = people(n);
            due("no days: WRONG", x.judge(0), NONE);
            due("no days: pairs ALIKE", x.judge(1), n * (n - 1) / 2);
            due("judge(-1)", x.judge(-1), OUTSIDE);
            due("judge(2)", x.judge(2), OUTSIDE);
        }
    }

    private static void wrongFirstDay() {
        UnlikeCounts x = told("people 3;barred 0 1;");
        x.write(1, 0, true);
        x.write(1, 2, true);
        due("WRONG is the first", x.judge(0), 0);
        due("pairs ALIKE now, no day was tried", x.judge(1), 3);
        UnlikeCounts y = told("people 3;must 0 1;");
        y.write(1, 0, false);
        y.write(1, 2, true);
        due("must: WRONG is the first", y.judge(0), 0);
        due("must: pairs ALIKE now", y.judge(1), 1);
    }

    private static void wrongLastDay() {
        UnlikeCounts x = told("people 3;barred 0 1;");
        for (int day = 0; day < 29; day++) {
            x.write(0, 2, day % 2 == 0);
        }
        due("29 days are fine", x.judge(0), NONE);
        due("behind them 0 2 are friends", x.judge(1), 1);
        x.write(0, 1, true);
        due("the 30th is WRONG", x.judge(0), 29);
        due("it was not tried", x.judge(1), 1);
    }

    private static void wrongByNoPersonNow() {
        UnlikeCounts x = people(8);
        x.write(0, 1, true);
        x.write(7, 0, true);
        x.write(2, 7, true);
        due("all are PERSONS", x.judge(0), NONE);
        due("death(3)", x.death(3), 7);
        due("7 is none now", x.judge(0), 1);
        due("only 0 1 were tried", x.judge(1), 1 + 10);
        due("birth()", x.birth(), 7);
        due("7 is one again", x.judge(0), NONE);
        while (x.told(0) > 0) {
            x.death(0);
        }
        due("no PERSONS: WRONG is the first", x.judge(0), 0);
        due("no PERSONS: pairs ALIKE", x.judge(1), 0);
        due("no PERSONS: days", x.told(10), 3);
        x.birth();
        due("one PERSON", x.judge(0), 0);
        x.birth();
        due("two PERSONS", x.judge(0), 1);
    }

    private static void wrongByBarsOfNow() {
        UnlikeCounts x = people(2);
        x.write(0, 1, true);
        x.write(0, 1, false);
        due("no bars", x.judge(0), NONE);
        x.bar(0, 1, 1);
        due("barred", x.judge(0), 0);
        x.bar(0, 1, 2);
        due("must", x.judge(0), 1);
        x.bar(0, 1, 0);
        due("no bars again", x.judge(0), NONE);
        due("the TOWN stays", x.told(2), 1);
    }

    private static void judgedFromNow() {
        UnlikeCounts x = people(3);
        x.write(0, 1, true);
        due("one friendship", x.judge(1), 1);
        x.tie(0, 2, true);
        due("a path", x.judge(1), 1);
        x.tie(1, 2, true);
        due("all", x.judge(1), 3);
        due("behind 0 1", x.told(1), 2);
    }

    private static void bookStaysAtGoBack() {
        UnlikeCounts x = people(2);
        x.keep(0);
        x.write(0, 1, true);
        x.goBack(0);
        due("days", x.told(10), 1);
        x.keep(0);
        x.tear();
        x.goBack(0);
        due("no days", x.told(10), 0);
    }

    // ---- P31: "THE SEED becomes v (0 .. 2147483647): what it was. OUTSIDE."

    private static void seedsZeroToGreatest() {
        UnlikeCounts x = new UnlikeCounts();
        due("0 at first", x.seed(GREATEST), 0);
        due("the greatest", x.seed(1), GREATEST);
        due("1", x.seed(0), 1);
        due("-1", x.seed(-1), OUTSIDE);
        due("least", x.seed(Integer.MIN_VALUE), OUTSIDE);
        due("0", x.seed(0), 0);
    }

    // ---- P30, BY DRAWS: "each DRAW it becomes it times 1103515245 and 12345, left over by 2 to the 31; the
    // DRAW of n is it / 65536, left over by n"

    private static long next(long seed) {
        return (seed * 1103515245L + 12345L) % 2147483648L;
    }

    private static int drawn(long seed, int n) {
        return (int) (next(seed) / 65536 % n);
    }

    /** The first seed from a start on, by which a week has this event, and the draw behind it of n this number. */
    private static int seedFor(int event, int n, int number) {
        int seed = 0;
        while (Math.min(drawn(seed, 8), 2) != event || drawn(next(seed), n) != number) {
            seed++;
        }
        return seed;
    }

    private static int seedOf(UnlikeCounts x) {
        int seed = x.seed(0);
        x.seed(seed);
        return seed;
    }

    private static void drawsWrapAround() {
        int[] seeds = {0, 1, 2, GREATEST, GREATEST - 1, 1 << 30, (1 << 30) - 1, 1103515245, 65535, 65536, 2147418112};
        for (int seed : seeds) {
            // With one person and no birth a week has one DRAW alone.
            UnlikeCounts x = people(1);
            x.seed(seed);
            x.drift(1);
            due("one DRAW from " + seed, seedOf(x), next(seed));
            due("a birth by 0 alone", x.told(0), drawn(seed, 8) == 0 ? 2 : 1);
        }
        long seed = GREATEST;
        UnlikeCounts x = people(1);
        x.seed(GREATEST);
        for (int week = 0; week < 99 && x.told(0) == 1; week++) {
            x.drift(1);
            seed = next(seed);
            due("a row of DRAWS", seedOf(x), seed);
        }
    }

    // ---- "n weeks (1 .. 99) BY DRAWS: the TOWN. OUTSIDE, NOT: no PERSONS."

    private static void weeksOneTo99() {
        for (int n : new int[] {0, 100, -1, 1000, Integer.MIN_VALUE, Integer.MAX_VALUE}) {
            UnlikeCounts x = people(2);
            due("drift(" + n + ")", x.drift(n), OUTSIDE);
            due("no DRAW", seedOf(x), 0);
            due("drift(" + n + ") of none", people(0).drift(n), OUTSIDE);
        }
        for (int n : new int[] {1, 99}) {
            UnlikeCounts x = people(2);
            due("drift(" + n + ") tells the TOWN", x.drift(n), x.told(2));
            DUE.holds("DRAWS", seedOf(x) != 0);
            UnlikeCounts none = people(0);
            due("drift(" + n + ") of none", none.drift(n), NOT);
            due("no DRAW of none", seedOf(none), 0);
        }
    }

    private static void manyWeeksAreSingleWeeks() {
        for (int seed : new int[] {0, 7, GREATEST}) {
            UnlikeCounts x = people(5);
            UnlikeCounts y = people(5);
            x.seed(seed);
            y.seed(seed);
            int town = x.drift(99);
            int last = 0;
            for (int week = 0; week < 99; week++) {
                last = y.drift(1);
            }
            due("99 weeks: TOWN", town, last);
            due("99 weeks: PERSONS", x.told(0), y.told(0));
            due("99 weeks: SEED", seedOf(x), seedOf(y));
        }
    }

    /** "0 a birth (none, if there are 8)" */
    private static void aBirthToEight() {
        int seed = seedFor(0, 1, 0);
        for (int n = 1; n <= 8; n++) {
            UnlikeCounts x = people(n);
            x.tie(0, 1, true);
            x.seed(seed);
            x.drift(1);
            due("PERSONS behind a birth in " + n, x.told(0), Math.min(n + 1, 8));
            due("friendships", x.told(1), n > 1 ? 1 : 0);
            due("one DRAW", seedOf(x), next(seed));
        }
    }

    /** "1 a death of a DRAW of PERSONS (none, no DRAW, if there is but 1)" */
    private static void aDeathToOne() {
        int seed = seedFor(1, 1, 0);
        UnlikeCounts one = people(1);
        one.seed(seed);
        one.drift(1);
        due("one stays", one.told(0), 1);
        due("no second DRAW", seedOf(one), next(seed));
        for (int n = 2; n <= 8; n++) {
            UnlikeCounts x = people(n);
            x.seed(seed);
            x.drift(1);
            due("PERSONS behind a death in " + n, x.told(0), n - 1);
            due("two DRAWS", seedOf(x), next(next(seed)));
        }
    }

    private static void deathOfFirstAndLast() {
        for (int n = 3; n <= 8; n++) {
            for (int who = 0; who < n; who++) {
                UnlikeCounts x = people(n);
                UnlikeCounts y = people(n);
                for (int p = 1; p < n; p++) {
                    x.tie(p - 1, p, true);
                    y.tie(p - 1, p, true);
                }
                x.bar(0, n - 1, 1);
                y.bar(0, n - 1, 1);
                x.seed(seedFor(1, n, who));
                x.drift(1);
                y.death(who);
                due("death of " + who + " in " + n, x.told(2), y.told(2));
                due("its bars", x.told(3), y.told(3));
            }
        }
    }

    /** "else, N above 1, two by a DRAW of pairs (by NUMBERS) change: friends are none, others are" */
    private static void aChangeNeedsTwo() {
        int seed = seedFor(2, 1, 0);
        UnlikeCounts one = people(1);
        one.seed(seed);
        due("of one", one.drift(1), 0);
        due("no second DRAW", seedOf(one), next(seed));
        UnlikeCounts two = people(2);
        two.seed(seed);
        due("of two: friends", two.drift(1), 1);
        due("two DRAWS", seedOf(two), next(next(seed)));
        two.seed(seed);
        due("of two: none again", two.drift(1), 0);
    }

    private static void changeOfFirstAndLastPair() {
        for (int n = 2; n <= 8; n++) {
            int pairs = n * (n - 1) / 2;
            for (int number = 0; number < pairs; number++) {
                UnlikeCounts x = people(n);
                int seed = seedFor(2, pairs, number);
                x.seed(seed);
                due("pair " + number + " of " + n + ": friends", x.drift(1), 1 << number);
                x.seed(seed);
                due("pair " + number + " of " + n + ": none", x.drift(1), 0);
            }
        }
        // All numbers of the first DRAW from 2 to 7 change a pair.
        int seen = 0;
        for (int seed = 0; seed < 1000; seed++) {
            UnlikeCounts x = people(2);
            x.seed(seed);
            if (x.drift(1) == 1) {
                seen |= 1 << drawn(seed, 8);
            }
        }
        due("2 to 7", seen, 252);
    }

    /** "if bars let them" */
    private static void barsHoldInAChange() {
        int seed = seedFor(2, 28, 27);
        UnlikeCounts barred = told("people 8;barred 6 7;");
        barred.seed(seed);
        due("barred", barred.drift(1), 0);
        due("barred: two DRAWS", seedOf(barred), next(next(seed)));
        UnlikeCounts must = told("people 8;must 6 7;");
        must.seed(seed);
        due("must", must.drift(1), 1 << 27);
        due("must: two DRAWS", seedOf(must), next(next(seed)));
    }

    private static void toldInADrift() {
        UnlikeCounts x = people(3);
        x.tell(0, 7);
        x.seed(seedFor(2, 3, 0));
        x.drift(1);
        due("a change tells nothing", x.tell(0, 7), 7);
        x.seed(seedFor(0, 1, 0));
        x.drift(1);
        due("a birth tells", x.tell(0, 7), 1);
        x.seed(seedFor(1, 4, 3));
        x.drift(1);
        due("a death tells", x.tell(0, 7), 1);
        UnlikeCounts full = people(8);
        full.tell(0, 7);
        full.seed(seedFor(0, 1, 0));
        full.drift(1);
        due("no birth tells nothing", full.tell(0, 7), 7);
        UnlikeCounts one = people(1);
        one.tell(0, 7);
        one.seed(seedFor(1, 1, 0));
        one.drift(1);
        due("no death tells nothing", one.tell(0, 7), 7);
    }

    private static void neverNoneNeverNine() {
        for (int start : new int[] {1, 8}) {
            UnlikeCounts x = people(start);
            for (int week = 0; week < 200; week++) {
                int town = x.drift(99);
                int n = x.told(0);
                DUE.holds("1 to 8 PERSONS: " + n, n >= 1 && n <= 8);
                DUE.holds("a TOWN of them", n >= 1 && town >= 0 && town < 1 << n * (n - 1) / 2);
            }
        }
    }

    // ---- P32: "IMAGE i becomes what is so: 1. UNKNOWN." P33: "What is so becomes IMAGE i: 1. UNKNOWN, NOT:
    // it was not kept." "IMAGES 0, 1 keep PERSONS, the TOWN, bars, COUNTS TOLD, THE SEED."

    private static void imagesZeroAndOne() {
        for (int i : new int[] {-1, 2, 3, Integer.MIN_VALUE, Integer.MAX_VALUE}) {
            UnlikeCounts x = people(2);
            due("keep(" + i + ")", x.keep(i), UNKNOWN);
            due("goBack(" + i + ")", x.goBack(i), UNKNOWN);
            due("goBack(0)", x.goBack(0), NOT);
            due("goBack(1)", x.goBack(1), NOT);
        }
        for (int i = 0; i <= 1; i++) {
            UnlikeCounts x = people(2);
            due("not kept", x.goBack(i), NOT);
            due("keep", x.keep(i), 1);
            due("the other one is not", x.goBack(1 - i), NOT);
            due("goBack", x.goBack(i), 1);
            due("goBack again", x.goBack(i), 1);
        }
    }

    private static void imageOfNoPersons() {
        UnlikeCounts x = new UnlikeCounts();
        due("keep(0)", x.keep(0), 1);
        x.birth();
        x.birth();
        x.tie(0, 1, true);
        x.seed(9);
        due("goBack(0)", x.goBack(0), 1);
        due("PERSONS", x.told(0), 0);
        due("TOWN", x.told(2), 0);
        due("SEED", x.seed(0), 0);
        x.birth();
        due("birth()", x.birth(), 1);
        due("no friends", x.friends(0), 0);
    }

    private static void imageOfFewAndOfMany() {
        UnlikeCounts x = told("people 2;friends 0 1;cost 3 9;");
        x.tell(0, 7);
        x.keep(0);
        while (x.told(0) < 8) {
            x.birth();
        }
        for (int p = 0; p < 8; p++) {
            for (int q = p + 1; q < 8; q++) {
                x.bar(p, q, 1 + (p + q) % 2);
            }
            x.tell(p, p);
        }
        x.seed(GREATEST);
        x.keep(1);
        int town = x.told(2);
        int barred = x.told(3);
        due("goBack(0)", x.goBack(0), 1);
        due("PERSONS", x.told(0), 2);
        due("TOWN", x.told(2), 1);
        due("bars", x.told(3) + x.told(4), 0);
        due("COUNT TOLD", x.tell(0, 0), 7);
        due("SEED", x.seed(4), 0);
        due("birth()", x.birth(), 2);
        due("a new one has no friends", x.friends(2), 0);
        due("a new one has no bars", x.bar(2, 0, 0) + x.bar(2, 1, 0), 0);
        due("goBack(1)", x.goBack(1), 1);
        due("all PERSONS", x.told(0), 8);
        due("all friendships", x.told(2), town);
        due("all barred", x.told(3), barred);
        due("all that must", x.told(4), town);
        for (int p = 0; p < 8; p++) {
            due("all COUNTS TOLD", x.tell(p, 0), p);
        }
        due("their SEED", x.seed(4), GREATEST);
        due("M, D", x.told(5) * 10 + x.told(6), 39);
    }

    private static void imageKeptAgain() {
        UnlikeCounts x = people(1);
        x.keep(0);
        x.birth();
        x.keep(0);
        x.death(0);
        x.death(0);
        due("goBack(0)", x.goBack(0), 1);
        due("the latest", x.told(0), 2);
    }

    private static void imagesGoneWithATown() {
        UnlikeCounts x = people(1);
        x.keep(0);
        x.keep(1);
        due("a fault", Due.townOf(x, "people"), -11);
        due("goBack(0)", x.goBack(0), 1);
        due("goBack(1)", x.goBack(1), 1);
        due("an empty text", x.town(), 0);
        due("goBack(0) then", x.goBack(0), NOT);
        due("goBack(1) then", x.goBack(1), NOT);
    }
}
