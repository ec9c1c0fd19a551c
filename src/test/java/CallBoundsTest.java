/** The calls at their bounds, sentence by sentence of the document (promises 5 to 26). */
public final class CallBoundsTest {
    private static final int NONE = UnlikeCounts.NONE;
    private static final int UNKNOWN = UnlikeCounts.UNKNOWN;
    private static final int OUTSIDE = UnlikeCounts.OUTSIDE;
    private static final int NOT = UnlikeCounts.NOT;
    private static final int FULL = UnlikeCounts.FULL;

    private static final Due DUE = new Due("CallBoundsTest");

    public static void main(String[] args) {
        toldZeroToTen();
        goodNeedsTwo();
        countsOfNoneAndAll();
        alikeOfNoneAndAll();
        pairsFirstToLast();
        tiesFirstToLast();
        tieBesideBars();
        barsZeroToTwo();
        birthsToEight();
        aNewOneHasNothing();
        deathsToNone();
        deathsFirstAndLast();
        madeTwoToEight();
        placesAtTheSum();
        bothWaysAreGood();
        goodOfTwoToEight();
        goodLesserWayFirstRow();
        goodNoneInAFullTown();
        pricesAtTheBounds();
        bornOneToSeven();
        diesFromThree();
        nearestToSix();
        nearestOfFullBars();
        evenZeroToFive();
        evenBesideBars();
        tellZeroToSeven();
        toldAtBirthAndDeath();
        canBeAtTheBounds();
        sureOfNoTown();
        liarZeroToLast();
        weightOfEightAtMost();
        weightGOneToFour();
        weightOfNone();
        sidesOneToFour();
        sortsOneToFive();
        manyCalls();
        DUE.end();
    }

    private static void due(String call, long got, long want) {
        DUE.is(call, got, want);
    }

    private static UnlikeCounts told(String text) {
        UnlikeCounts x = new UnlikeCounts();
        DUE.holds("town() of " + text, Due.townOf(x, text) >= 0);
        return x;
    }

    private static UnlikeCounts people(int n) {
        return told(n == 0 ? "" : "people " + n + ";");
    }

    private static UnlikeCounts allFriends(int n) {
        UnlikeCounts x = people(n);
        for (int p = 0; p < n; p++) {
            for (int q = p + 1; q < n; q++) {
                due("tie", x.tie(p, q, true), 1);
            }
        }
        return x;
    }

    private static UnlikeCounts allBars(int n, int v) {
        UnlikeCounts x = people(n);
        for (int p = 0; p < n; p++) {
            for (int q = p + 1; q < n; q++) {
                due("bar", x.bar(p, q, v), 0);
            }
        }
        return x;
    }

    private static int pairs(int n) {
        return n * (n - 1) / 2;
    }

    // ---- P5: "0 PERSONS, .., 10 days of THE BOOK. OUTSIDE."

    private static void toldZeroToTen() {
        for (int n = 0; n <= 8; n++) {
            UnlikeCounts x = people(n);
            for (int what = 0; what <= 10; what++) {
                DUE.holds("told(" + what + ") is answered", x.told(what) >= 0);
            }
            for (int what : new int[] {-1, 11, 12, Integer.MIN_VALUE, Integer.MAX_VALUE}) {
                due("told(" + what + ")", x.told(what), OUTSIDE);
            }
            due("persons", x.told(0), n);
            due("friendships", x.told(1), 0);
            due("pairs alike", x.told(7), pairs(n));
            UnlikeCounts full = allFriends(n);
            due("all friendships", full.told(1), pairs(n));
            due("the full TOWN", full.told(2), (1 << pairs(n)) - 1);
            due("all alike", full.told(7), pairs(n));
        }
    }

    /** "GOOD: just one pair is ALIKE (N above 1)." */
    private static void goodNeedsTwo() {
        int[] none = {0, 0, 1, 0, 0, 0, 0, 0, 0};
        for (int n = 0; n <= 8; n++) {
            due("GOOD of " + n + " without friends", people(n).told(8), none[n]);
            due("GOOD of " + n + " all friends", allFriends(n).told(8), none[n]);
        }
    }

    // ---- P6, P7, P8

    private static void countsOfNoneAndAll() {
        for (int n = 1; n <= 8; n++) {
            UnlikeCounts none = people(n);
            UnlikeCounts all = allFriends(n);
            for (int p = 0; p < n; p++) {
                due("count of none", none.count(p), 0);
                due("friends of none", none.friends(p), 0);
                due("count of all", all.count(p), n - 1);
                due("friends of all", all.friends(p), (1 << n) - 1 - (1 << p));
            }
            due("count(N)", all.count(n), UNKNOWN);
            due("friends(N)", all.friends(n), UNKNOWN);
            due("alike(N)", all.alike(n), UNKNOWN);
        }
    }

    private static void alikeOfNoneAndAll() {
        for (int n = 1; n <= 8; n++) {
            UnlikeCounts all = allFriends(n);
            for (int p = 0; p < n; p++) {
                due("alike of all", all.alike(p), (1 << n) - 1 - (1 << p));
            }
        }
        // Counts 3, 2, 2, 1: the first and the last are alike with none.
        UnlikeCounts x = told("people 4;friends 0 1;friends 0 2;friends 0 3;friends 1 2;");
        due("alike(0)", x.alike(0), 0);
        due("alike(1)", x.alike(1), 4);
        due("alike(2)", x.alike(2), 2);
        due("alike(3)", x.alike(3), 0);
    }

    // ---- P9: "The NUMBER of two (either way round). UNKNOWN."

    private static void pairsFirstToLast() {
        for (int n = 2; n <= 8; n++) {
            UnlikeCounts x = people(n);
            int number = 0;
            for (int p = 0; p < n; p++) {
                for (int q = p + 1; q < n; q++) {
                    due("pair of " + n, x.pair(p, q), number);
                    due("pair of " + n + " turned", x.pair(q, p), number);
                    number++;
                }
                due("pair(p, p)", x.pair(p, p), UNKNOWN);
                due("pair(p, N)", x.pair(p, n), UNKNOWN);
                due("pair(N, p)", x.pair(n, p), UNKNOWN);
                due("pair(p, -1)", x.pair(p, -1), UNKNOWN);
                due("pair(-1, p)", x.pair(-1, p), UNKNOWN);
            }
        }
    }

    // ---- P10: "Two become friends, or none: 1 it is another TOWN now, 0 it is not. UNKNOWN, NOT: bars."

    private static void tiesFirstToLast() {
        for (int n = 2; n <= 8; n++) {
            UnlikeCounts x = people(n);
            due("first two", x.tie(1, 0, true), 1);
            due("again", x.tie(0, 1, true), 0);
            due("the first bit", x.told(2), 1);
            due("none", x.tie(0, 1, false), 1);
            due("none again", x.tie(1, 0, false), 0);
            due("last two", x.tie(n - 2, n - 1, true), 1);
            due("the last bit", x.told(2), 1 << pairs(n) - 1);
        }
    }

    private static void tieBesideBars() {
        UnlikeCounts x = told("people 8;barred 6 7;must 0 1;");
        due("barred, made", x.tie(7, 6, true), NOT);
        due("barred, none as before", x.tie(7, 6, false), 0);
        due("must, none", x.tie(1, 0, false), NOT);
        due("must, made as before", x.tie(1, 0, true), 0);
        due("the TOWN", x.told(2), 1);
        x.bar(6, 7, 0);
        due("barred no more", x.tie(7, 6, true), 1);
        x.bar(0, 1, 0);
        due("must no more", x.tie(1, 0, false), 1);
    }

    // ---- P11: "Bars of two: 0 none, 1 barred, 2 must (they are none, friends then): what they were."

    private static void barsZeroToTwo() {
        for (int was = 0; was <= 2; was++) {
            for (int next = 0; next <= 2; next++) {
                for (int is = 0; is <= 1; is++) {
                    UnlikeCounts x = people(8);
                    x.tie(6, 7, is == 1);
                    x.bar(7, 6, was);
                    int then = was == 0 ? is : was - 1;
                    due("friends by the first bar", x.told(1), then);
                    due("what they were", x.bar(6, 7, next), was);
                    due("friends by the next bar", x.told(1), next == 0 ? then : next - 1);
                    due("barred ones", x.told(3), next == 1 ? 1 << 27 : 0);
                    due("must ones", x.told(4), next == 2 ? 1 << 27 : 0);
                }
            }
        }
        UnlikeCounts x = people(2);
        due("bar(0, 1, 3)", x.bar(0, 1, 3), OUTSIDE);
        due("bar(0, 1, -1)", x.bar(0, 1, -1), OUTSIDE);
        due("bar(0, 1, 4)", x.bar(0, 1, 4), OUTSIDE);
    }

    // ---- P12: "A birth: the number of the new one. FULL (8)."

    private static void birthsToEight() {
        UnlikeCounts x = new UnlikeCounts();
        for (int n = 0; n < 8; n++) {
            due("birth()", x.birth(), n);
            due("persons", x.told(0), n + 1);
        }
        due("the ninth", x.birth(), FULL);
        due("still", x.told(0), 8);
        due("a death", x.death(7), 7);
        due("room again", x.birth(), 7);
        due("full again", x.birth(), FULL);
    }

    private static void aNewOneHasNothing() {
        // The last of 8 leaves with all it had; who comes then has none of it.
        UnlikeCounts x = told("people 8;friends 0 7;must 6 7;barred 5 7;");
        x.tell(7, 6);
        x.death(7);
        due("birth()", x.birth(), 7);
        due("friends", x.friends(7), 0);
        due("bars", x.told(3) + x.told(4), 0);
        due("count told", x.tell(7, 0), 0);
        for (int q = 0; q < 7; q++) {
            due("no bar", x.bar(7, q, 0), 0);
        }
    }

    // ---- P13: "A death (those behind move up): how many are left. UNKNOWN."

    private static void deathsToNone() {
        UnlikeCounts x = allFriends(8);
        for (int n = 8; n > 0; n--) {
            due("death(N)", x.death(n), UNKNOWN);
            due("death(-1)", x.death(-1), UNKNOWN);
            due("death", x.death((n - 1) / 2), n - 1);
            due("all friends still", x.told(2), (1 << pairs(n - 1)) - 1);
        }
        due("none is left", x.told(0), 0);
        due("death(0) of none", x.death(0), UNKNOWN);
    }

    private static void deathsFirstAndLast() {
        UnlikeCounts first = told("people 8;friends 0 1;friends 6 7;barred 1 7;must 1 2;barred 0 5;");
        due("death(0)", first.death(0), 7);
        due("5 and 6", first.friends(6), 1 << 5);
        due("barred 0 6", first.told(3), 1 << 5);
        due("must 0 1", first.told(4), 1);
        UnlikeCounts last = told("people 8;friends 0 1;friends 6 7;barred 1 7;must 1 2;barred 0 5;");
        due("death(7)", last.death(7), 7);
        due("none of 6", last.friends(6), 0);
        due("barred 0 5", last.told(3), 1 << 4);
        due("must 1 2", last.told(4), 1 << 6);
    }

    // ---- P14: "Whether PLACES i, j (0 .. n less 1) are friends in a WAY of n (2 .. 8) PERSONS (1, 0).
    // OUTSIDE (also i like j)."

    private static void madeTwoToEight() {
        UnlikeCounts x = new UnlikeCounts();
        for (int n : new int[] {-1, 0, 1, 9, 10}) {
            due("made of " + n, x.made(n, 0, 0, 1), OUTSIDE);
            due("made of " + n, x.made(n, 1, 1, 0), OUTSIDE);
        }
        for (int n = 2; n <= 8; n++) {
            DUE.holds("made of " + n, x.made(n, 0, 0, n - 1) == 0 && x.made(n, 1, n - 1, 0) == 1);
            due("WAY -1", x.made(n, -1, 0, 1), OUTSIDE);
            due("WAY 2", x.made(n, 2, 0, 1), OUTSIDE);
            due("i -1", x.made(n, 0, -1, 0), OUTSIDE);
            due("i n", x.made(n, 0, n, 0), OUTSIDE);
            due("j -1", x.made(n, 0, 0, -1), OUTSIDE);
            due("j n", x.made(n, 0, 0, n), OUTSIDE);
            for (int i = 0; i < n; i++) {
                due("i like j", x.made(n, 0, i, i), OUTSIDE);
                due("i like j", x.made(n, 1, i, i), OUTSIDE);
            }
        }
    }

    /** "in town WAY 0 .. if i and j are N or more together; in WAY 1, if they are less than N together." */
    private static void placesAtTheSum() {
        UnlikeCounts x = new UnlikeCounts();
        for (int n = 2; n <= 8; n++) {
            for (int i = 0; i < n; i++) {
                int j = n - i;
                if (j < n && i != j) {
                    due("N together, WAY 0", x.made(n, 0, i, j), 1);
                    due("N together, WAY 1", x.made(n, 1, i, j), 0);
                }
                j = n - 1 - i;
                if (i != j) {
                    due("one less, WAY 0", x.made(n, 0, i, j), 0);
                    due("one less, WAY 1", x.made(n, 1, i, j), 1);
                }
            }
        }
    }

    private static UnlikeCounts wayOf(int n, int way) {
        UnlikeCounts x = people(n);
        for (int i = 0; i < n; i++) {
            for (int j = i + 1; j < n; j++) {
                x.tie(i, j, x.made(n, way, i, j) == 1);
            }
        }
        return x;
    }

    private static void bothWaysAreGood() {
        for (int n = 2; n <= 8; n++) {
            for (int way = 0; way <= 1; way++) {
                UnlikeCounts x = wayOf(n, way);
                due("one pair of " + n, x.told(7), 1);
                due("GOOD", x.told(8), 1);
                due("PRICE", x.good(-1), 0);
                due("WAY", x.good(-2), way);
                due("TOWN", x.good(-3), x.told(2));
            }
        }
    }

    // ---- P15: "p = NONE the PRICE, -2 the WAY, -3 the TOWN, else the PLACE of a PERSON; NONE. UNKNOWN.
    // NOT: N below 2."

    private static void goodOfTwoToEight() {
        for (int n = 0; n <= 8; n++) {
            UnlikeCounts x = people(n);
            for (int p = -3; p <= -1; p++) {
                DUE.holds("good(" + p + ") of " + n, n < 2 ? x.good(p) == NOT : x.good(p) >= 0);
            }
            int seen = 0;
            for (int p = 0; p < n; p++) {
                int place = x.good(p);
                if (n < 2) {
                    due("good of one", place, NOT);
                } else {
                    seen |= 1 << place;
                }
            }
            due("each PLACE once", seen, n < 2 ? 0 : (1 << n) - 1);
            due("good(N)", x.good(n), UNKNOWN);
            due("good(-4)", x.good(-4), UNKNOWN);
        }
    }

    /** "of like ones the lesser WAY, then the first (PERSON by PERSON the lesser PLACE)" */
    private static void goodLesserWayFirstRow() {
        // Without friends WAY 0 has fewer; the counts rise with the PLACES.
        for (int n = 2; n <= 8; n++) {
            UnlikeCounts x = people(n);
            due("WAY of none", x.good(-2), 0);
            due("WAY of all", allFriends(n).good(-2), 1);
            for (int p = 0; p < n; p++) {
                due("PLACE of one of none", x.good(p), p);
                due("PLACE of one of all", allFriends(n).good(p), p);
            }
        }
        // Four in a path: a tie less is WAY 0, a tie more WAY 1, for the same PRICE.
        UnlikeCounts path = told("people 4;friends 0 1;friends 1 2;friends 2 3;cost 9 9;");
        due("PRICE", path.good(-1), 9);
        due("the lesser WAY", path.good(-2), 0);
    }

    private static void goodNoneInAFullTown() {
        for (int n = 2; n <= 8; n++) {
            for (int v = 1; v <= 2; v++) {
                UnlikeCounts x = allBars(n, v);
                for (int p = -3; p < n; p++) {
                    if (n > 2) {
                        due("no town KEEPS BARS", x.good(p), NONE);
                    }
                }
                if (n == 2) {
                    due("the WAY that bars leave", x.good(-2), v - 1);
                }
                due("good(N)", x.good(n), UNKNOWN);
            }
        }
    }

    /** "PRICE ..: M for each friendship made, D for each dropped." */
    private static void pricesAtTheBounds() {
        // Of 8 WAY 0 has 12 friendships, WAY 1 has 16.
        UnlikeCounts none = told("people 8;cost 9 1;");
        due("12 made at 9", none.good(-1), 108);
        UnlikeCounts all = allFriends(8);
        due("12 dropped at 1", all.good(-1), 12);
        UnlikeCounts dear = told("people 3;friends 0 1;friends 0 2;friends 1 2;cost 1 9;");
        due("one dropped at 9", dear.good(-1), 9);
        UnlikeCounts bound = told("people 3;must 0 1;must 0 2;barred 1 2;cost 9 9;");
        due("what is bound costs nothing", bound.good(-1), 0);
    }

    // ---- P16: "BORN; NONE. NOT: N below 1, above 7."

    private static void bornOneToSeven() {
        due("of none", people(0).born(), NOT);
        due("of 8", people(8).born(), NOT);
        for (int n = 1; n <= 7; n++) {
            UnlikeCounts[] towns = {people(n), allFriends(n), allBars(n, 1), allBars(n, 2)};
            for (UnlikeCounts x : towns) {
                int price = x.born();
                due("persons stay", x.told(0), n);
                x.birth();
                due("as it is behind a birth in " + n, price, x.good(-1));
            }
        }
        due("four of whom none may like another: NONE", allBars(4, 1).born(), NONE);
        due("three of them", allBars(3, 1).born(), 2);
        due("four who must: NONE", allBars(4, 2).born(), NONE);
    }

    // ---- P17: "DIES; NONE. UNKNOWN, NOT: N below 3."

    private static void diesFromThree() {
        for (int n = 0; n <= 8; n++) {
            for (int p = 0; p < n; p++) {
                UnlikeCounts[] towns = {people(n), allFriends(n), allBars(n, 1), allBars(n, 2)};
                for (UnlikeCounts x : towns) {
                    int price = x.dies(p);
                    due("persons stay", x.told(0), n);
                    x.death(p);
                    due("as it is behind a death in " + n, price, n < 3 ? NOT : x.good(-1));
                }
            }
            due("dies(N)", people(n).dies(n), UNKNOWN);
            due("dies(-1)", people(n).dies(-1), UNKNOWN);
        }
        due("NONE", allBars(4, 2).dies(3), NONE);
        due("two are left", allBars(3, 2).dies(0), 0);
    }

    // ---- P18: "what = 0 pairs ALIKE, 1 the PRICE, 2 the TOWN. OUTSIDE, NOT: N above 6."

    private static void nearestToSix() {
        for (int n = 0; n <= 8; n++) {
            UnlikeCounts x = people(n);
            due("nearest(-1) of " + n, x.nearest(-1), OUTSIDE);
            due("nearest(3) of " + n, x.nearest(3), OUTSIDE);
            for (int what = 0; what <= 2; what++) {
                DUE.holds("nearest(" + what + ") of " + n, n > 6 ? x.nearest(what) == NOT : x.nearest(what) >= 0);
            }
            if (n <= 6) {
                due("pairs ALIKE of " + n, x.nearest(0), n > 1 ? 1 : 0);
                due("PRICE of " + n, x.nearest(1), n > 1 ? x.good(-1) : 0);
            }
            if (n < 2) {
                due("TOWN of " + n, x.nearest(2), 0);
            }
        }
        // The same object with ever fewer persons, and a dear dropping.
        UnlikeCounts fewer = told("people 6;cost 1 9;");
        for (int n = 6; n > 0; n--) {
            due("pairs ALIKE of " + n + " left", fewer.nearest(0), n > 1 ? 1 : 0);
            due("PRICE of " + n + " left", fewer.nearest(1), n > 1 ? fewer.good(-1) : 0);
            fewer.death(0);
        }
        UnlikeCounts dear = told("people 3;friends 0 1;friends 0 2;friends 1 2;cost 1 9;");
        due("PRICE of a dropping", dear.nearest(1), 9);
        // "then the least number": of the three single ties the pair of NUMBER 0.
        due("TOWN of 3", people(3).nearest(2), 1);
        due("TOWN of 2", people(2).nearest(2), 0);
    }

    private static void nearestOfFullBars() {
        for (int n = 0; n <= 6; n++) {
            for (int v = 1; v <= 2; v++) {
                UnlikeCounts x = allBars(n, v);
                due("pairs ALIKE", x.nearest(0), pairs(n));
                due("PRICE", x.nearest(1), 0);
                due("TOWN", x.nearest(2), v == 1 ? 0 : (1 << pairs(n)) - 1);
            }
        }
    }

    // ---- P19: "EVEN (d 0 .. 5): what = 0 the PRICE, 1 the TOWN; NONE. OUTSIDE, NOT: N above 6."

    private static void evenZeroToFive() {
        for (int n = 0; n <= 8; n++) {
            UnlikeCounts x = people(n);
            due("d -1", x.even(-1, 0), OUTSIDE);
            due("d 6", x.even(6, 0), OUTSIDE);
            due("what -1", x.even(0, -1), OUTSIDE);
            due("what 2", x.even(0, 2), OUTSIDE);
            for (int d = 0; d <= 5; d++) {
                boolean can = n == 0 || d < n && n * d % 2 == 0;
                int price = n > 6 ? NOT : can ? n * d / 2 : NONE;
                due("even(" + d + ", 0) of " + n, x.even(d, 0), price);
                DUE.holds("even(" + d + ", 1) of " + n, price < 0 ? x.even(d, 1) == price
                        : Integer.bitCount(x.even(d, 1)) == price);
            }
        }
        due("d N less 1", people(6).even(5, 1), 32767);
        due("d N", people(5).even(5, 1), NONE);
        // "of like ones the least number": a ring of 4 without the pair of NUMBER 5.
        due("the least number", people(4).even(2, 1), 30);
        due("the least number of 1", people(4).even(1, 1), 12);
    }

    private static void evenBesideBars() {
        for (int n = 1; n <= 6; n++) {
            UnlikeCounts barred = allBars(n, 1);
            UnlikeCounts must = allBars(n, 2);
            for (int d = 0; d <= 5; d++) {
                due("all barred", barred.even(d, 0), d == 0 ? 0 : NONE);
                due("all must", must.even(d, 0), d == n - 1 ? 0 : NONE);
                due("all must: TOWN", must.even(d, 1), d == n - 1 ? (1 << pairs(n)) - 1 : NONE);
            }
        }
    }

    // ---- P20: "A COUNT TOLD becomes v (0 .. 7): what it was. UNKNOWN, OUTSIDE."

    private static void tellZeroToSeven() {
        for (int n = 1; n <= 8; n++) {
            UnlikeCounts x = people(n);
            int was = 0;
            for (int v = 0; v <= 7; v++) {
                due("tell", x.tell(n - 1, v), was);
                was = v;
            }
            due("tell(p, 8)", x.tell(n - 1, 8), OUTSIDE);
            due("tell(p, -1)", x.tell(n - 1, -1), OUTSIDE);
            due("it stays", x.tell(n - 1, 0), 7);
            due("tell(N, 0)", x.tell(n, 0), UNKNOWN);
            due("tell(N, 8)", x.tell(n, 8), UNKNOWN);
            due("tell(-1, 0)", x.tell(-1, 0), UNKNOWN);
            due("no COUNT changes", x.count(n - 1), 0);
        }
    }

    /** "COUNTS TOLD: .. as they are, when a text tells THE TOWN, at a birth, at a death" */
    private static void toldAtBirthAndDeath() {
        UnlikeCounts x = allFriends(8);
        for (int p = 0; p < 8; p++) {
            due("told ahead of the ties", x.tell(p, 0), 0);
        }
        x.birth();
        due("a refused birth tells nothing", x.tell(0, 0), 0);
        x.death(8);
        due("a refused death tells nothing", x.tell(0, 0), 0);
        x.death(0);
        for (int p = 0; p < 7; p++) {
            due("told at a death", x.tell(p, 1), 6);
        }
        x.birth();
        for (int p = 0; p < 8; p++) {
            due("told at a birth", x.tell(p, 1), p < 7 ? 6 : 0);
        }
        UnlikeCounts y = told("people 8;must 0 7;barred 0 1;");
        int[] want = {1, 0, 0, 0, 0, 0, 0, 1};
        for (int p = 0; p < 8; p++) {
            due("told by a text", y.tell(p, 0), want[p]);
        }
        y.bar(0, 7, 1);
        due("a bar tells nothing", y.tell(0, 5), 0);
    }

    private static void sayAll(UnlikeCounts x, int v) {
        for (int p = 0; p < x.told(0); p++) {
            x.tell(p, v);
        }
    }

    // ---- P21: "CAN BE. NOT: N above 6."

    private static void canBeAtTheBounds() {
        // Towns of n in which all have d, by n and d.
        int[][] even = {{1, 1, 1, 1, 1, 1, 1, 1}, {1, 0, 0, 0, 0, 0, 0, 0}, {1, 1, 0, 0, 0, 0, 0, 0},
            {1, 0, 1, 0, 0, 0, 0, 0}, {1, 3, 3, 1, 0, 0, 0, 0}, {1, 0, 12, 0, 1, 0, 0, 0},
            {1, 15, 70, 70, 15, 1, 0, 0}};
        for (int n = 0; n <= 6; n++) {
            UnlikeCounts x = people(n);
            UnlikeCounts barred = allBars(n, 1);
            for (int v = 0; v <= 7; v++) {
                sayAll(x, v);
                sayAll(barred, v);
                due("all of " + n + " told " + v, x.canBe(), even[n][v]);
                due("bars are not looked at", barred.canBe(), even[n][v]);
            }
        }
        due("of 7", people(7).canBe(), NOT);
        due("of 8", people(8).canBe(), NOT);
    }

    // ---- P22: "SURE: friends of a PERSON in all of these; PERHAPS: in some (SETS; empty ones, if there is
    // no such TOWN)"; "what = 0 SURE, 1 PERHAPS. UNKNOWN, OUTSIDE, NOT: N above 6."

    private static void sureOfNoTown() {
        for (int n = 1; n <= 6; n++) {
            UnlikeCounts x = people(n);
            int others = (1 << n) - 2;
            sayAll(x, n - 1);
            due("all: SURE", x.sure(0, 0), others);
            due("all: PERHAPS", x.sure(0, 1), others);
            sayAll(x, n);
            due("no TOWN: SURE", x.sure(0, 0), 0);
            due("no TOWN: PERHAPS", x.sure(0, 1), 0);
            sayAll(x, 0);
            due("none: SURE", x.sure(n - 1, 0), 0);
            due("none: PERHAPS", x.sure(n - 1, 1), 0);
            due("sure(N, 0)", x.sure(n, 0), UNKNOWN);
            due("sure(-1, 0)", x.sure(-1, 0), UNKNOWN);
            due("sure(0, 2)", x.sure(0, 2), OUTSIDE);
            due("sure(0, -1)", x.sure(0, -1), OUTSIDE);
        }
        // Counts 1 1 1 1: any other one perhaps, none surely.
        UnlikeCounts four = people(4);
        sayAll(four, 1);
        due("three towns: SURE", four.sure(0, 0), 0);
        due("three towns: PERHAPS", four.sure(0, 1), 14);
        due("of none", people(0).sure(0, 0), UNKNOWN);
        due("of 7", people(7).sure(6, 1), NOT);
        due("of 8", people(8).sure(7, 0), NOT);
    }

    // ---- P23: "LIAR: PERSONS .. by whose COUNT being another one (0 to N less 1), of them alone, they can
    // be; 0, if they can be as told." "NOT: N above 6."

    private static void liarZeroToLast() {
        due("of none", people(0).liar(), 0);
        due("of 7", people(7).liar(), NOT);
        due("of 8", people(8).liar(), NOT);
        for (int n = 1; n <= 6; n++) {
            UnlikeCounts x = people(n);
            due("as they are", x.liar(), 0);
            x.tell(n - 1, n);
            due("N is told: the last alone", x.liar(), 1 << n - 1);
            x.tell(n - 1, 7);
            due("7 is told: the last alone", x.liar(), 1 << n - 1);
            // Truly 0, the bound below.
            sayAll(x, 0);
            x.tell(0, n);
            due("the first alone", x.liar(), 1);
            sayAll(x, n - 1);
            due("all are friends", x.liar(), 0);
            // Truly N less 1, the bound above.
            x.tell(0, 7);
            due("the first alone, of all", x.liar(), 1);
            if (n > 1) {
                x.tell(1, 7);
                due("two cannot be one", x.liar(), 0);
            }
        }
        // One friend told among three who have none: he, or either of the others.
        UnlikeCounts three = people(3);
        three.tell(2, 1);
        due("each of them", three.liar(), 7);
        due("and it cannot be", three.canBe(), 0);
        // Of one town alone as told, though it could also be with another count of the first: 0.
        UnlikeCounts four = told("people 4;friends 0 1;friends 0 2;");
        due("one town", four.canBe(), 1);
        due("as told: none lies", four.liar(), 0);
        four.tell(0, 1);
        due("told wrong: the first, by 0 or 2, or another", four.liar(), 1 + 2 + 4 + 8);
    }

    // ---- P24: "p = NONE the least g, else the WEIGHT of the friendship of p and q (0: they are none);
    // NONE: there is no g. UNKNOWN, NOT: more than 8 friendships."

    private static void weightOfEightAtMost() {
        UnlikeCounts x = people(8);
        for (int q = 1; q < 8; q++) {
            x.tie(0, q, true);
        }
        x.tie(1, 2, true);
        due("8 friendships", x.weight(-1, 0), NONE);
        x.tie(1, 3, true);
        due("9 friendships", x.weight(-1, 0), NOT);
        due("9 friendships: of friends", x.weight(0, 1), NOT);
        due("9 friendships: of others", x.weight(6, 7), NOT);
        due("9 friendships: of one", x.weight(6, 6), UNKNOWN);
        due("9 friendships: of no person", x.weight(8, 0), UNKNOWN);
        due("p -2", x.weight(-2, 0), UNKNOWN);
        due("28 friendships", allFriends(8).weight(-1, 0), NOT);
        UnlikeCounts path = people(8);
        for (int p = 0; p < 7; p++) {
            path.tie(p, p + 1, true);
        }
        path.tie(0, 7, true);
        due("a ring of 8: sums are 2 to 8, too few", path.weight(-1, 0), NONE);
        path.tie(0, 7, false);
        path.tie(0, 2, true);
        due("8 persons, 8 friendships, the greatest g", path.weight(-1, 0), 4);
        int sums = 0;
        for (int p = 0; p < 8; p++) {
            int sum = 0;
            for (int q = 0; q < 8; q++) {
                sum += q == p ? 0 : path.weight(p, q);
            }
            sums |= 1 << sum;
        }
        due("eight sums", Integer.bitCount(sums), 8);
    }

    /** "the least g (1 .. 4); NONE" */
    private static void weightGOneToFour() {
        due("none: 1", people(0).weight(-1, 0), 1);
        due("one: 1", people(1).weight(-1, 0), 1);
        due("two alone: NONE", people(2).weight(-1, 0), NONE);
        for (int leaves = 2; leaves <= 7; leaves++) {
            UnlikeCounts star = people(leaves + 1);
            for (int q = 1; q <= leaves; q++) {
                star.tie(0, q, true);
            }
            due("g of " + leaves + " about one", star.weight(-1, 0), leaves <= 4 ? leaves : NONE);
            for (int q = 1; q <= leaves; q++) {
                due("the first row", star.weight(q, 0), leaves <= 4 ? q : NONE);
            }
        }
    }

    private static void weightOfNone() {
        UnlikeCounts x = told("people 4;friends 0 1;friends 0 2;");
        due("g, one is alone", x.weight(-1, 0), 2);
        due("of no friends", x.weight(1, 2), 0);
        due("of one alone", x.weight(3, 0), 0);
        due("one twice", x.weight(3, 3), UNKNOWN);
        x.birth();
        due("two are alone", x.weight(-1, 0), NONE);
        due("two are alone: of friends", x.weight(0, 1), NONE);
    }

    // ---- P25: "SIDES of a and b (1 .. 4 both)"; OUTSIDE

    private static void sidesOneToFour() {
        UnlikeCounts x = new UnlikeCounts();
        for (int v : new int[] {0, 5, -1, 6, Integer.MIN_VALUE, Integer.MAX_VALUE}) {
            for (int w = 1; w <= 4; w++) {
                due("sides(" + v + ", " + w + ")", x.sides(v, w), OUTSIDE);
                due("sides(" + w + ", " + v + ")", x.sides(w, v), OUTSIDE);
            }
            due("sides(" + v + ", " + v + ")", x.sides(v, v), OUTSIDE);
        }
        due("sides(1, 1)", x.sides(1, 1), 2);
        due("sides(1, 2)", x.sides(1, 2), 2);
        due("sides(1, 3): three are never unlike by 0 and 1", x.sides(1, 3), 0);
        due("sides(4, 1)", x.sides(4, 1), 0);
        due("sides(2, 2)", x.sides(2, 2), 8);
        for (int a = 1; a <= 4; a++) {
            for (int b = 1; b <= 4; b++) {
                due("sides turned", x.sides(a, b), x.sides(b, a));
            }
        }
        // Any order on either side, and 0 to 3 or 1 to 4 friends for each.
        due("sides(4, 4)", x.sides(4, 4), 1152);
    }

    // ---- P26: "TWO SORTS: each two of N PERSONS (1 .. 5)"; OUTSIDE

    private static void sortsOneToFive() {
        UnlikeCounts x = new UnlikeCounts();
        for (int v : new int[] {0, 6, -1, Integer.MIN_VALUE, Integer.MAX_VALUE}) {
            due("sorts(" + v + ")", x.sorts(v), OUTSIDE);
        }
        due("sorts(1)", x.sorts(1), 1);
        due("sorts(2): both have the same", x.sorts(2), 0);
        due("sorts(3): one pair by each sort, one not", x.sorts(3), 6);
        DUE.holds("sorts(4)", x.sorts(4) > 0);
        DUE.holds("sorts(5)", x.sorts(5) > x.sorts(4));
    }

    // ---- "An object is used for at most 512 calls"

    private static void manyCalls() {
        UnlikeCounts x = people(6);
        int price = x.nearest(1);
        for (int k = 0; k < 120; k++) {
            due("nearest, many times", x.nearest(1), price);
            due("good, many times", x.good(-1), price);
            due("canBe, many times", x.canBe(), 1);
            due("sorts, many times", x.sorts(2), 0);
        }
    }
}
