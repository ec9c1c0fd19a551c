/** Each promise by hand: ordinary inputs, the edges that the document names, wrong inputs. */
public final class PromisesTest {
    private static final int NONE = UnlikeCounts.NONE;
    private static final int UNKNOWN = UnlikeCounts.UNKNOWN;
    private static final int OUTSIDE = UnlikeCounts.OUTSIDE;
    private static final int NOT = UnlikeCounts.NOT;
    private static final int FULL = UnlikeCounts.FULL;

    private static final Due DUE = new Due("PromisesTest");

    public static void main(String[] args) {
        newObject();
        feeding();
        towns();
        faults();
        faultsLeaveAllAsItWas();
        tellings();
        personsAndPairs();
        ties();
        bars();
        births();
        deaths();
        places();
        making();
        makingBesideBars();
        comingAndGoing();
        nearestTowns();
        evenTowns();
        countsTold();
        liars();
        weights();
        sides();
        sorts();
        books();
        drifts();
        seeds();
        images();
        DUE.end();
    }

    private static UnlikeCounts told(String text) {
        UnlikeCounts x = new UnlikeCounts();
        DUE.holds("town() of " + text, Due.townOf(x, text) >= 0);
        return x;
    }

    private static void due(String call, long got, long want) {
        DUE.is(call, got, want);
    }

    // P1
    private static void newObject() {
        UnlikeCounts x = new UnlikeCounts();
        int[] want = {0, 0, 0, 0, 0, 1, 1, 0, 0, 0, 0};
        for (int what = 0; what < want.length; what++) {
            due("new: told(" + what + ")", x.told(what), want[what]);
        }
        due("new: fault()", x.fault(), NONE);
        due("new: count(0)", x.count(0), UNKNOWN);
        due("new: seed(0)", x.seed(0), 0);
        due("new: goBack(0)", x.goBack(0), NOT);
        due("new: goBack(1)", x.goBack(1), NOT);
        due("new: tear()", x.tear(), 0);
        due("new: judge(0)", x.judge(0), NONE);
        due("new: canBe()", x.canBe(), 1);
        due("new: nearest(0)", x.nearest(0), 0);
        due("new: nearest(1)", x.nearest(1), 0);
        due("new: nearest(2)", x.nearest(2), 0);
        due("new: even(3, 0)", x.even(3, 0), 0);
        due("new: weight(-1, 0)", x.weight(-1, 0), 1);
        due("new: liar()", x.liar(), 0);
    }

    // P2
    private static void feeding() {
        UnlikeCounts x = new UnlikeCounts();
        due("feed(0, 1)", x.feed(0, 1), OUTSIDE);
        due("feed(9, 1)", x.feed(9, 1), OUTSIDE);
        due("feed(-1, 1)", x.feed(-1, 1), OUTSIDE);
        due("feed(MIN, 1)", x.feed(Integer.MIN_VALUE, 1), OUTSIDE);
        due("told(9) behind refusals", x.told(9), 0);
        // Only the lowest n bytes count; what stands above them is left out.
        due("feed(2, 'xxpe')", x.feed(2, 0x78787065L), 2);
        due("feed(4, 'ople')", x.feed(4, 0x6f706c65L), 6);
        due("feed(2, '3;')", x.feed(2, 0x333bL), 8);
        due("town()", x.town(), 3);
        due("told(9) behind town()", x.told(9), 0);
        for (int k = 1; k <= 49; k++) {
            due("feed of 8", x.feed(8, 0x2020202020202020L), 8 * k);
        }
        due("feed(7, ..)", x.feed(7, 0x20202020202020L), 399);
        due("feed(2, ..) at 399", x.feed(2, 0x2020), FULL);
        due("feed(9, ..) at 399", x.feed(9, 0x2020), OUTSIDE);
        due("told(9) at 399", x.told(9), 399);
        due("feed(1, ..) at 399", x.feed(1, 0x20), 400);
        due("feed(1, ..) at 400", x.feed(1, 0x20), FULL);
        due("told(9)", x.told(9), 400);
        UnlikeCounts y = new UnlikeCounts();
        String full = "people 2; friends 0 1;" + " ".repeat(377) + ";";
        due("400 bytes", Due.feedAll(y, full), 400);
        due("town() of 400 bytes", y.town(), -11);
        due("fault() at the last byte", y.fault(), 399);
    }

    // P3
    private static void towns() {
        UnlikeCounts x = told("people 3; friends 0 1; must 1 2; cost 2 3;");
        due("told(2)", x.told(2), 5);
        due("told(4)", x.told(4), 4);
        due("told(5)", x.told(5), 2);
        due("told(6)", x.told(6), 3);
        x.write(0, 1, false);
        x.keep(0);
        x.seed(77);
        x.tell(0, 5);
        due("another town", Due.townOf(x, "people 2;"), 2);
        due("no book", x.told(10), 0);
        due("images are gone", x.goBack(0), NOT);
        due("the seed stays", x.seed(77), 77);
        due("counts told as they are", x.tell(0, 0), 0);
        due("cost untold", x.told(5) * 10 + x.told(6), 11);
        due("no friends", x.told(2), 0);
        due("no must", x.told(4), 0);
        x.keep(1);
        x.write(0, 1, true);
        due("empty text", x.town(), 0);
        due("no persons", x.told(0), 0);
        due("no book behind an empty text", x.told(10), 0);
        due("no image behind an empty text", x.goBack(1), NOT);
        due("only blanks", Due.townOf(x, "   "), 0);
        due("fault() of blanks", x.fault(), NONE);
        due("blanks anywhere", Due.townOf(x, "  people  3  ;  friends  2  0  ;barred0 1;cost1 9 ; "), 3);
        due("its friends", x.told(2), 2);
        due("its bars", x.told(3), 1);
        due("its costs", x.told(5) * 10 + x.told(6), 19);
        due("figures", Due.townOf(x, "people 008;friends 007 00;cost 001 009;"), 8);
        due("figures: friends", x.friends(7), 1);
    }

    // P3, P4
    private static void fault(String text, int kind, int place) {
        UnlikeCounts x = new UnlikeCounts();
        due("town() of '" + text + "'", Due.townOf(x, text), -10 - kind);
        due("fault() of '" + text + "'", x.fault(), place);
        due("told(9) of '" + text + "'", x.told(9), 0);
    }

    private static void faults() {
        fault("x", 1, 0);
        fault(" 7", 1, 1);
        fault(";", 1, 0);
        fault("cost 1 1;people 2;", 1, 0);
        fault("peopl 2;", 1, 0);
        fault("peoples 2;", 1, 0);
        fault("peoplez 2;", 1, 0);
        fault("beople 2;", 1, 0);
        fault("people 2;lost 1 1;", 1, 9);
        fault("people 2;cosz 1 1;", 1, 9);
        fault("people 2;`friends 0 1;", 1, 9);
        fault("people 2;friends{ 0 1;", 1, 16);
        fault("people 2:", 1, 8);
        fault("people 2/", 1, 8);
        fault("people", 1, 6);
        fault("people  ", 1, 8);
        fault("people 2", 1, 8);
        fault("people 2 ", 1, 9);
        fault("people;", 1, 6);
        fault("people people 2;", 1, 7);
        fault("people x;", 1, 7);
        fault("people 2 2;", 1, 9);
        fault("people 2 2222;", 1, 9);
        fault("people 2;;", 1, 9);
        fault("people 2;3", 1, 9);
        fault("people 2; Friends 0 1;", 1, 10);
        fault("people 2;friends0 1;friends", 1, 27);
        fault("people 2;friendsbarred 0 1;", 1, 9);
        fault("people 2;friends 0;", 1, 18);
        fault("people 2;friends 0,1;", 1, 18);
        fault("people 2;friends 0 1", 1, 20);
        fault("people 2;friends 0 1 0;", 1, 21);
        fault("people 2\t;", 1, 8);
        fault("people 2;" + (char) 233, 1, 9);
        fault("people -2;", 1, 7);
        fault("people 2;co st 1 1;", 1, 9);
        fault("people 2;cost 1;", 1, 15);
        fault("people 2;cost 1 1 1;", 1, 18);
        fault("people 0;", 2, 7);
        fault("people 9;", 2, 7);
        fault("people 999;", 2, 7);
        fault("people 0002;", 2, 7);
        fault("people 00000000000000000002;", 2, 7);
        fault("people 9x", 2, 7);
        fault("people 2;friends 2 0;", 2, 17);
        fault("people 2;friends 0 2;", 2, 19);
        fault("people 2;friends 2 2;", 2, 17);
        fault("people 2;friends 0001 2;", 2, 17);
        fault("people 2;friends 0 0000;", 2, 19);
        fault("people 1;friends 0 1;", 2, 19);
        fault("people 2;cost 0 1;", 2, 14);
        fault("people 2;cost 1 0;", 2, 16);
        fault("people 2;cost 10 1;", 2, 14);
        fault("people 2;cost 1 10;", 2, 16);
        fault("people 2;cost 0001 1;", 2, 14);
        fault("people 2;people", 3, 9);
        fault("people 2; cost 1 1; people 2;", 3, 20);
        fault("people 2;cost 1 1;cost", 3, 18);
        fault("people 2;cost 1 1;cost 1 1;", 3, 18);
        fault("people 1;friends 0 0;", 4, 19);
        fault("people 2;must 1 01;", 4, 16);
        fault("people 2;barred 0 0;", 4, 18);
        fault("people 3;friends 0 1;friends 1 0;", 4, 31);
        fault("people 3;barred 0 1;friends 1 0;", 4, 30);
        fault("people 3;barred 0 1;must 0 1;", 4, 27);
        fault("people 3;must 0 1;friends 0 1", 4, 28);
        fault("people 3;friends 0 1;must 0  1", 4, 29);
        fault("people 3;must 0 2;barred 2 0;", 4, 27);
    }

    private static void faultsLeaveAllAsItWas() {
        UnlikeCounts x = told("people 3;friends 0 1;cost 4 5;");
        x.write(0, 2, true);
        x.keep(0);
        x.tell(2, 6);
        due("a fault", Due.townOf(x, "people 5;friends 0 1;cost 7 7;oh"), -11);
        due("fault()", x.fault(), 30);
        due("persons", x.told(0), 3);
        due("town", x.told(2), 1);
        due("costs", x.told(5) * 10 + x.told(6), 45);
        due("book", x.told(10), 1);
        due("counts told", x.tell(2, 6), 6);
        due("image", x.goBack(0), 1);
        due("no fault next", Due.townOf(x, "people 1;"), 1);
        due("fault() then", x.fault(), NONE);
    }

    // P5
    private static void tellings() {
        UnlikeCounts x = told("people 4;friends 0 1;barred 0 3;must 2 3;cost 2 3;friends 1 2;");
        int[] want = {4, 3, 41, 4, 32, 2, 3, 2, 0, 0, 0};
        for (int what = 0; what < want.length; what++) {
            due("told(" + what + ")", x.told(what), want[what]);
        }
        x.feed(3, 0);
        due("told(9)", x.told(9), 3);
        x.write(0, 1, true);
        due("told(10)", x.told(10), 1);
        due("told(-1)", x.told(-1), OUTSIDE);
        due("told(11)", x.told(11), OUTSIDE);
        due("told(MIN)", x.told(Integer.MIN_VALUE), OUTSIDE);
        due("GOOD of 1", told("people 1;").told(8), 0);
        due("GOOD of 2", told("people 2;").told(8), 1);
        due("GOOD of 2 friends", told("people 2;friends 0 1;").told(8), 1);
        due("GOOD of 3", told("people 3;").told(8), 0);
        due("pairs of 8", told("people 8;").told(7), 28);
        UnlikeCounts y = told("people 8;friends 7 6;");
        due("the last pair of 8", y.told(2), 1 << 27);
    }

    // P6, P7, P8, P9
    private static void personsAndPairs() {
        UnlikeCounts x = told("people 4;friends 0 1;friends 1 2;friends 2 3;");
        due("count(0)", x.count(0), 1);
        due("count(1)", x.count(1), 2);
        due("friends(1)", x.friends(1), 5);
        due("friends(3)", x.friends(3), 4);
        due("alike(0)", x.alike(0), 8);
        due("alike(2)", x.alike(2), 2);
        int[] wrong = {-1, 4, 8, 31, 32, 33, Integer.MAX_VALUE, Integer.MIN_VALUE};
        for (int p : wrong) {
            due("count(" + p + ")", x.count(p), UNKNOWN);
            due("friends(" + p + ")", x.friends(p), UNKNOWN);
            due("alike(" + p + ")", x.alike(p), UNKNOWN);
            due("pair(0, " + p + ")", x.pair(0, p), UNKNOWN);
            due("pair(" + p + ", 0)", x.pair(p, 0), UNKNOWN);
        }
        int number = 0;
        for (int p = 0; p < 4; p++) {
            due("pair(p, p)", x.pair(p, p), UNKNOWN);
            for (int q = p + 1; q < 4; q++) {
                due("pair(p, q)", x.pair(p, q), number);
                due("pair(q, p)", x.pair(q, p), number);
                number++;
            }
        }
        due("alone: alike(0)", told("people 1;").alike(0), 0);
        due("pair of 8", told("people 8;").pair(7, 6), 27);
    }

    // P10
    private static void ties() {
        UnlikeCounts x = told("people 3;barred 0 1;must 0 2;");
        due("tie barred", x.tie(0, 1, true), NOT);
        due("tie barred, other way round", x.tie(1, 0, true), NOT);
        due("none barred", x.tie(0, 1, false), 0);
        due("drop must", x.tie(2, 0, false), NOT);
        due("make must", x.tie(2, 0, true), 0);
        due("tie", x.tie(2, 1, true), 1);
        due("tie again", x.tie(1, 2, true), 0);
        due("its town", x.told(2), 6);
        due("untie", x.tie(1, 2, false), 1);
        due("untie again", x.tie(1, 2, false), 0);
        due("town then", x.told(2), 2);
        due("tie(0, 0)", x.tie(0, 0, true), UNKNOWN);
        due("tie(0, 3)", x.tie(0, 3, false), UNKNOWN);
        due("tie(-1, 0)", x.tie(-1, 0, false), UNKNOWN);
        due("counts told stay", x.tell(1, 0), 0);
        x.tie(1, 2, true);
        due("counts told stay still", x.tell(1, 0), 0);
    }

    // P11
    private static void bars() {
        UnlikeCounts x = told("people 3;friends 0 1;");
        due("bar", x.bar(1, 0, 1), 0);
        due("they are none", x.told(2), 0);
        due("barred ones", x.told(3), 1);
        due("must", x.bar(0, 1, 2), 1);
        due("they are friends", x.told(2), 1);
        due("not barred now", x.told(3), 0);
        due("must ones", x.told(4), 1);
        due("free", x.bar(0, 1, 0), 2);
        due("still friends", x.told(2), 1);
        due("no must", x.told(4), 0);
        due("were free", x.bar(0, 1, 0), 0);
        due("bar(0, 1, 3)", x.bar(0, 1, 3), OUTSIDE);
        due("bar(0, 1, -1)", x.bar(0, 1, -1), OUTSIDE);
        due("bar(0, 0, 3)", x.bar(0, 0, 3), UNKNOWN);
        due("bar(3, 0, 1)", x.bar(3, 0, 1), UNKNOWN);
        due("nothing changed", x.told(2), 1);
    }

    // P12
    private static void births() {
        UnlikeCounts x = told("people 3;friends 0 1;barred 1 2;must 0 2;");
        x.tell(0, 7);
        due("birth()", x.birth(), 3);
        due("friends are renumbered", x.told(2), 3);
        due("bars are renumbered", x.told(3), 8);
        due("musts are renumbered", x.told(4), 2);
        due("counts told as they are", x.tell(0, 2), 2);
        due("of the new one", x.tell(3, 0), 0);
        due("no friends", x.friends(3), 0);
        due("no bars", x.bar(3, 0, 0), 0);
        for (int n = 4; n < 8; n++) {
            due("birth()", x.birth(), n);
        }
        x.tell(0, 7);
        due("birth() of the ninth", x.birth(), FULL);
        due("counts told stay", x.tell(0, 7), 7);
        due("persons", x.told(0), 8);
    }

    // P13
    private static void deaths() {
        UnlikeCounts x = told("people 4;friends 0 1;friends 2 3;barred 0 2;must 1 3;");
        x.tell(0, 7);
        due("death(4)", x.death(4), UNKNOWN);
        due("death(-1)", x.death(-1), UNKNOWN);
        due("counts told stay", x.tell(0, 7), 7);
        due("death(1)", x.death(1), 3);
        due("friends 1 2 now", x.told(2), 4);
        due("barred 0 1 now", x.told(3), 1);
        due("no must", x.told(4), 0);
        due("counts told as they are", x.tell(0, 0), 0);
        due("death(0)", x.death(0), 2);
        due("friends 0 1 now", x.told(2), 1);
        due("no bars", x.told(3), 0);
        due("death(1)", x.death(1), 1);
        due("death(0)", x.death(0), 0);
        due("death(0) of none", x.death(0), UNKNOWN);
        due("a birth behind", x.birth(), 0);
        due("another one", x.birth(), 1);
        due("nothing comes back", x.told(2) + x.told(3) + x.told(4), 0);
        UnlikeCounts full = told("people 8;friends 0 7;must 6 7;barred 5 7;");
        due("death of the first of 8", full.death(0), 7);
        due("friends(6)", full.friends(6), 32);
        due("death of the last", full.death(6), 6);
        due("no friends", full.told(2), 0);
        due("no bars", full.told(3) + full.told(4), 0);
    }

    // P14
    private static void places() {
        UnlikeCounts x = new UnlikeCounts();
        for (int n = 2; n <= 8; n++) {
            for (int i = 0; i < n; i++) {
                for (int j = 0; j < n; j++) {
                    String call = "made(" + n + ", ., " + i + ", " + j + ")";
                    due(call, x.made(n, 0, i, j), i == j ? OUTSIDE : i + j >= n ? 1 : 0);
                    due(call, x.made(n, 1, i, j), i == j ? OUTSIDE : i + j >= n ? 0 : 1);
                }
            }
            due("made(n, 2, ..)", x.made(n, 2, 0, 1), OUTSIDE);
            due("made(n, -1, ..)", x.made(n, -1, 0, 1), OUTSIDE);
            due("made(n, 0, n, 0)", x.made(n, 0, n, 0), OUTSIDE);
            due("made(n, 0, 0, n)", x.made(n, 0, 0, n), OUTSIDE);
            due("made(n, 0, -1, 0)", x.made(n, 0, -1, 0), OUTSIDE);
            due("made(n, 0, 0, -1)", x.made(n, 0, 0, -1), OUTSIDE);
        }
        due("made(1, 0, 0, 0)", x.made(1, 0, 0, 0), OUTSIDE);
        due("made(9, 0, 0, 1)", x.made(9, 0, 0, 1), OUTSIDE);
    }

    // P15
    private static void making() {
        UnlikeCounts x = told("people 2;");
        due("price", x.good(-1), 0);
        due("way", x.good(-2), 0);
        due("town", x.good(-3), 0);
        due("place of 0", x.good(0), 0);
        due("place of 1", x.good(1), 1);
        due("good(2)", x.good(2), UNKNOWN);
        due("good(-4)", x.good(-4), UNKNOWN);
        due("good(MIN)", x.good(Integer.MIN_VALUE), UNKNOWN);
        x.tie(0, 1, true);
        due("friends: way", x.good(-2), 1);
        due("friends: price", x.good(-1), 0);
        UnlikeCounts one = told("people 1;");
        due("N 1: good(-1)", one.good(-1), NOT);
        due("N 1: good(-3)", one.good(-3), NOT);
        due("N 1: good(0)", one.good(0), NOT);
        due("N 1: good(1)", one.good(1), UNKNOWN);
        due("N 1: good(-4)", one.good(-4), UNKNOWN);
        UnlikeCounts none = new UnlikeCounts();
        due("N 0: good(-1)", none.good(-1), NOT);
        due("N 0: good(0)", none.good(0), UNKNOWN);
        // 3 persons, none friends: one friendship, of like ones 1 2 in places 1 2 of way 0.
        UnlikeCounts three = told("people 3;cost 7 2;");
        due("three: price", three.good(-1), 7);
        due("three: town", three.good(-3), 4);
        due("three: places", three.good(0) * 100 + three.good(1) * 10 + three.good(2), 12);
        due("nothing changes", three.told(2), 0);
        // A path of four: one less is way 0, one more is way 1.
        UnlikeCounts path = told("people 4;friends 0 1;friends 1 2;friends 2 3;");
        due("path: price", path.good(-1), 1);
        due("path: the lesser way", path.good(-2), 0);
        due("path: town", path.good(-3), 8 + 32);
        due("path: places", path.good(0) * 1000 + path.good(1) * 100 + path.good(2) * 10 + path.good(3), 132);
        UnlikeCounts dear = told("people 4;friends 0 1;friends 1 2;friends 2 3;cost 1 2;");
        due("path, dropping is dear: way", dear.good(-2), 1);
    }

    private static void makingBesideBars() {
        UnlikeCounts x = told("people 2;barred 0 1;");
        due("barred: way", x.good(-2), 0);
        x.bar(0, 1, 2);
        due("must: way", x.good(-2), 1);
        // Two friendships apart, and none across: no place for it.
        UnlikeCounts y = told("people 4;must 0 1;must 2 3;barred 0 2;barred 1 3;barred 0 3;barred 1 2;");
        for (int p = -3; p < 4; p++) {
            due("NONE: good(" + p + ")", y.good(p), NONE);
        }
        due("NONE: born()", y.born(), NONE);
        due("dies(0) is fine", y.dies(0), 0);
        UnlikeCounts z = told("people 5;must 0 1;must 2 3;barred 0 2;barred 1 3;barred 0 3;barred 1 2;");
        due("NONE: dies(4)", z.dies(4), NONE);
    }

    // P16, P17
    private static void comingAndGoing() {
        due("born() of none", new UnlikeCounts().born(), NOT);
        due("born() of 1", told("people 1;").born(), 0);
        due("born() of 7", told("people 7;cost 2 1;").born(), 24);
        due("born() of 8", told("people 8;").born(), NOT);
        UnlikeCounts x = told("people 3;friends 0 1;");
        due("dies(0)", x.dies(0), 0);
        due("dies(3)", x.dies(3), UNKNOWN);
        due("dies(-1)", x.dies(-1), UNKNOWN);
        due("dies leaves all", x.told(0) * 10 + x.told(2), 31);
        UnlikeCounts two = told("people 2;");
        due("dies(0) of 2", two.dies(0), NOT);
        due("dies(2) of 2", two.dies(2), UNKNOWN);
    }

    // P18
    private static void nearestTowns() {
        UnlikeCounts x = told("people 4;must 0 1;must 2 3;barred 0 2;barred 1 3;barred 0 3;barred 1 2;");
        due("pairs alike", x.nearest(0), 6);
        due("price", x.nearest(1), 0);
        due("town", x.nearest(2), 33);
        UnlikeCounts one = told("people 1;");
        due("N 1", one.nearest(0) + one.nearest(1) + one.nearest(2), 0);
        UnlikeCounts three = told("people 3;cost 3 1;");
        due("three: pairs", three.nearest(0), 1);
        due("three: price", three.nearest(1), 3);
        due("three: town", three.nearest(2), 1);
        due("nearest(-1)", three.nearest(-1), OUTSIDE);
        due("nearest(3)", three.nearest(3), OUTSIDE);
        UnlikeCounts seven = told("people 7;");
        due("N 7", seven.nearest(0), NOT);
        due("N 7, what 3", seven.nearest(3), OUTSIDE);
        due("N 6", told("people 6;").nearest(0), 1);
    }

    // P19
    private static void evenTowns() {
        UnlikeCounts x = told("people 4;friends 0 1;barred 0 3;must 2 3;cost 2 3;friends 1 2;");
        due("even(2, 0)", x.even(2, 0), 2 + 2 + 3);
        due("even(2, 1)", x.even(2, 1), 51);
        due("even(3, 0)", x.even(3, 0), NONE);
        due("even(3, 1)", x.even(3, 1), NONE);
        UnlikeCounts one = told("people 1;");
        due("N 1: even(0, 0)", one.even(0, 0), 0);
        due("N 1: even(1, 0)", one.even(1, 0), NONE);
        UnlikeCounts six = told("people 6;cost 2 1;");
        due("N 6: even(5, 0)", six.even(5, 0), 30);
        due("N 6: even(5, 1)", six.even(5, 1), 32767);
        due("N 6: even(1, 1)", six.even(1, 1), 16 + 128 + 512);
        UnlikeCounts five = told("people 5;");
        due("N 5: even(1, 0)", five.even(1, 0), NONE);
        due("N 5: even(5, 0)", five.even(5, 0), NONE);
        due("even(6, 0)", five.even(6, 0), OUTSIDE);
        due("even(-1, 0)", five.even(-1, 0), OUTSIDE);
        due("even(0, 2)", five.even(0, 2), OUTSIDE);
        due("even(0, -1)", five.even(0, -1), OUTSIDE);
        UnlikeCounts seven = told("people 7;");
        due("N 7", seven.even(0, 0), NOT);
        due("N 7, d 6", seven.even(6, 0), OUTSIDE);
    }

    // P20, P21, P22
    private static void countsTold() {
        UnlikeCounts star = told("people 4;friends 0 1;friends 0 2;friends 0 3;");
        due("sure ahead of all", star.sure(0, 0), 14);
        star.tell(3, 0);
        star.tell(0, 2);
        due("sure behind a change", star.sure(0, 0), 6);
        star.tell(0, 3);
        due("perhaps behind a change", star.sure(0, 1), 0);
        UnlikeCounts x = told("people 4;friends 0 1;friends 1 2;friends 2 3;barred 0 3;");
        due("canBe()", x.canBe(), 2);
        due("SURE of 1", x.sure(1, 0), 4);
        due("PERHAPS of 1", x.sure(1, 1), 4 + 1 + 8);
        due("tell(0, 2)", x.tell(0, 2), 1);
        due("tell(3, 2)", x.tell(3, 2), 1);
        due("a ring, bars are not looked at", x.canBe(), 3);
        due("none is sure", x.sure(0, 0), 0);
        due("all perhaps", x.sure(0, 1), 14);
        due("tell(3, 7)", x.tell(3, 7), 2);
        due("cannot be", x.canBe(), 0);
        due("SURE of none", x.sure(0, 0), 0);
        due("PERHAPS of none", x.sure(0, 1), 0);
        due("tell(4, 0)", x.tell(4, 0), UNKNOWN);
        due("tell(4, 8)", x.tell(4, 8), UNKNOWN);
        due("tell(0, 8)", x.tell(0, 8), OUTSIDE);
        due("tell(0, -1)", x.tell(0, -1), OUTSIDE);
        due("it stays", x.tell(0, 2), 2);
        due("sure(4, 2)", x.sure(4, 2), UNKNOWN);
        due("sure(-1, 0)", x.sure(-1, 0), UNKNOWN);
        due("sure(0, 2)", x.sure(0, 2), OUTSIDE);
        due("sure(0, -1)", x.sure(0, -1), OUTSIDE);
        UnlikeCounts seven = told("people 7;");
        due("N 7: canBe()", seven.canBe(), NOT);
        due("N 7: sure(0, 0)", seven.sure(0, 0), NOT);
        due("N 7: sure(0, 2)", seven.sure(0, 2), OUTSIDE);
        due("N 7: sure(7, 0)", seven.sure(7, 0), UNKNOWN);
        due("N 7: tell(6, 7)", seven.tell(6, 7), 0);
        UnlikeCounts six = told("people 6;");
        for (int p = 0; p < 6; p++) {
            six.tell(p, 2);
        }
        due("rings of 6", six.canBe(), 70);
    }

    // P23
    private static void liars() {
        UnlikeCounts x = told("people 3;");
        due("as they are", x.liar(), 0);
        x.tell(0, 1);
        due("one of three", x.liar(), 1 + 2 + 4);
        x.tell(0, 7);
        due("far off", x.liar(), 1);
        x.tell(1, 7);
        due("two are", x.liar(), 0);
        UnlikeCounts one = told("people 1;");
        one.tell(0, 1);
        due("alone", one.liar(), 1);
        due("none", new UnlikeCounts().liar(), 0);
        due("N 7", told("people 7;").liar(), NOT);
    }

    // P24
    private static void weights() {
        due("alone", told("people 1;").weight(-1, 0), 1);
        UnlikeCounts two = told("people 2;friends 0 1;");
        due("two", two.weight(-1, 0), NONE);
        due("of two", two.weight(0, 1), NONE);
        UnlikeCounts x = told("people 3;friends 0 1;friends 1 2;");
        due("a path: g", x.weight(NONE, 0), 2);
        due("a path: 0 1", x.weight(0, 1), 1);
        due("a path: 2 1", x.weight(2, 1), 2);
        due("a path: 0 2", x.weight(0, 2), 0);
        due("q is not looked at", x.weight(NONE, 9), 2);
        due("weight(0, 0)", x.weight(0, 0), UNKNOWN);
        due("weight(0, 3)", x.weight(0, 3), UNKNOWN);
        due("weight(0, -1)", x.weight(0, -1), UNKNOWN);
        due("weight(-2, 0)", x.weight(-2, 0), UNKNOWN);
        UnlikeCounts ring = told("people 3;friends 0 1;friends 1 2;friends 0 2;");
        due("a ring: g", ring.weight(-1, 0), 3);
        due("a ring: row", ring.weight(0, 1) * 100 + ring.weight(0, 2) * 10 + ring.weight(1, 2), 123);
        UnlikeCounts star = told("people 6;friends 0 1;friends 0 2;friends 0 3;friends 0 4;friends 0 5;");
        due("five about one: more than 4", star.weight(-1, 0), NONE);
        due("five about one: of a pair", star.weight(0, 5), NONE);
        due("no g, no friends", star.weight(1, 2), NONE);
        star.tie(0, 5, false);
        due("four and one alone", star.weight(-1, 0), 4);
        due("the last of four", star.weight(4, 0), 4);
        UnlikeCounts nine = told("people 5;friends 0 1;friends 0 2;friends 0 3;friends 0 4;friends 1 2;"
                + "friends 1 3;friends 1 4;friends 2 3;");
        due("eight friendships", nine.weight(-1, 0), 2);
        nine.tie(2, 4, true);
        due("nine: g", nine.weight(-1, 0), NOT);
        due("nine: of two", nine.weight(0, 1), NOT);
        due("nine: of one", nine.weight(0, 0), UNKNOWN);
    }

    // P25
    private static void sides() {
        UnlikeCounts x = new UnlikeCounts();
        for (int a = 1; a <= 4; a++) {
            for (int b = 1; b <= 4; b++) {
                int want = sidesByAll(a, b);
                due("sides(" + a + ", " + b + ")", x.sides(a, b), want);
                due("sides again", x.sides(a, b), want);
            }
        }
        due("sides(0, 1)", x.sides(0, 1), OUTSIDE);
        due("sides(1, 0)", x.sides(1, 0), OUTSIDE);
        due("sides(5, 1)", x.sides(5, 1), OUTSIDE);
        due("sides(1, 5)", x.sides(1, 5), OUTSIDE);
    }

    private static int sidesByAll(int a, int b) {
        int ways = 0;
        for (int all = 0; all < 1 << a * b; all++) {
            int[] left = new int[a];
            int[] right = new int[b];
            for (int k = 0; k < a * b; k++) {
                left[k / b] += all >> k & 1;
                right[k % b] += all >> k & 1;
            }
            if (java.util.Arrays.stream(left).distinct().count() == a
                    && java.util.Arrays.stream(right).distinct().count() == b) {
                ways++;
            }
        }
        return ways;
    }

    // P26
    private static void sorts() {
        UnlikeCounts x = new UnlikeCounts();
        for (int n = 1; n <= 5; n++) {
            int want = sortsByAll(n);
            due("sorts(" + n + ")", x.sorts(n), want);
            due("sorts again", x.sorts(n), want);
        }
        due("sorts(0)", x.sorts(0), OUTSIDE);
        due("sorts(6)", x.sorts(6), OUTSIDE);
        due("sorts(MIN)", x.sorts(Integer.MIN_VALUE), OUTSIDE);
    }

    private static int sortsByAll(int n) {
        int all = 1;
        for (int k = 0; k < n * (n - 1) / 2; k++) {
            all *= 3;
        }
        int ways = 0;
        for (int code = 0; code < all; code++) {
            int[] both = new int[n];
            int left = code;
            for (int p = 0; p < n; p++) {
                for (int q = p + 1; q < n; q++) {
                    int more = left % 3 == 1 ? 1 : left % 3 == 2 ? 100 : 0;
                    both[p] += more;
                    both[q] += more;
                    left /= 3;
                }
            }
            if (java.util.Arrays.stream(both).distinct().count() == n) {
                ways++;
            }
        }
        return ways;
    }

    // P27, P28, P29
    private static void books() {
        UnlikeCounts x = told("people 4;friends 0 1;barred 0 3;must 2 3;");
        due("judge(0) of no days", x.judge(0), NONE);
        due("judge(1) of no days", x.judge(1), 6);
        due("write(0, 0)", x.write(0, 0, true), UNKNOWN);
        due("write(0, 4)", x.write(0, 4, true), UNKNOWN);
        due("write(-1, 0)", x.write(-1, 0, true), UNKNOWN);
        due("a day", x.write(1, 2, true), 1);
        due("judge(1)", x.judge(1), 2);
        due("a day that changes nothing", x.write(1, 2, true), 2);
        due("none barred are fine", x.write(0, 3, false), 3);
        due("must are fine", x.write(3, 2, true), 4);
        due("judge(0)", x.judge(0), NONE);
        due("must quarrel", x.write(3, 2, false), 5);
        due("wrong", x.judge(0), 4);
        due("before it", x.judge(1), 2);
        due("behind it nothing is tried", x.write(0, 1, false), 6);
        due("before it still", x.judge(1), 2);
        due("the town stays", x.told(2), 33);
        due("judge(2)", x.judge(2), OUTSIDE);
        due("judge(-1)", x.judge(-1), OUTSIDE);
        due("tear()", x.tear(), 6);
        due("tear() again", x.tear(), 0);
        x.write(2, 3, true);
        x.write(0, 1, false);
        due("death(3)", x.death(3), 3);
        due("the book stays", x.told(10), 2);
        due("no person now", x.judge(0), 0);
        due("birth()", x.birth(), 3);
        due("a person again, no bars", x.judge(0), NONE);
        due("alike behind both", x.judge(1), 2);
        x.tear();
        for (int day = 1; day <= 30; day++) {
            due("day " + day, x.write(0, 1, day % 2 == 0), day);
        }
        due("day 31", x.write(0, 1, true), FULL);
        due("day 31 of one", x.write(0, 0, true), UNKNOWN);
        due("days", x.told(10), 30);
        due("tried to the end", x.judge(0), NONE);
        due("its towns", x.judge(1), x.told(7));
    }

    // P30
    private static void drifts() {
        UnlikeCounts x = told("people 4;friends 0 1;barred 0 3;must 2 3;cost 2 3;friends 1 2;");
        x.seed(3);
        x.tell(0, 7);
        due("drift(12)", x.drift(12), 256);
        due("persons", x.told(0), 5);
        due("counts told as they are", x.tell(0, x.count(0)) != 7 ? 1 : 0, 1);
        due("drift(30)", x.drift(30), 48);
        due("drift(0)", x.drift(0), OUTSIDE);
        due("drift(100)", x.drift(100), OUTSIDE);
        due("drift(-1)", x.drift(-1), OUTSIDE);
        UnlikeCounts none = new UnlikeCounts();
        due("no persons", none.drift(1), NOT);
        due("no persons, 100", none.drift(100), OUTSIDE);
        due("the seed stays", none.seed(0), 0);
        due("99 weeks", Math.min(x.drift(99), 0), 0);
    }

    // P31
    private static void seeds() {
        UnlikeCounts x = told("people 1;");
        due("seed(MAX)", x.seed(Integer.MAX_VALUE), 0);
        due("seed(-1)", x.seed(-1), OUTSIDE);
        due("seed(MIN)", x.seed(Integer.MIN_VALUE), OUTSIDE);
        due("it stays", x.seed(0), Integer.MAX_VALUE);
        x.drift(1);
        due("one draw from 0", x.seed(5), 12345);
        due("what it was", x.seed(0), 5);
    }

    // P32, P33
    private static void images() {
        UnlikeCounts x = told("people 3;friends 0 1;barred 0 2;must 1 2;cost 2 5;");
        x.seed(9);
        x.tell(0, 4);
        x.write(0, 1, true);
        due("keep(-1)", x.keep(-1), UNKNOWN);
        due("keep(2)", x.keep(2), UNKNOWN);
        due("goBack(-1)", x.goBack(-1), UNKNOWN);
        due("goBack(2)", x.goBack(2), UNKNOWN);
        due("goBack(1)", x.goBack(1), NOT);
        due("keep(1)", x.keep(1), 1);
        due("goBack(0)", x.goBack(0), NOT);
        x.bar(0, 2, 2);
        x.birth();
        x.death(1);
        x.seed(10);
        x.write(0, 1, false);
        due("keep(0)", x.keep(0), 1);
        due("goBack(1)", x.goBack(1), 1);
        due("persons", x.told(0), 3);
        due("town", x.told(2), 5);
        due("barred", x.told(3), 2);
        due("must", x.told(4), 4);
        due("count told", x.tell(0, 4), 4);
        due("seed", x.seed(11), 9);
        due("costs", x.told(5) * 10 + x.told(6), 25);
        due("the book is no part of it", x.told(10), 2);
        due("goBack(0)", x.goBack(0), 1);
        due("seed of 0", x.seed(12), 10);
        due("town of 0", x.told(2), 1);
        due("goBack(0) again", x.goBack(0), 1);
        due("seed of 0 again", x.seed(0), 10);
        x.birth();
        due("an image does not change", x.goBack(0), 1);
        due("persons of 0", x.told(0), 3);
    }
}
