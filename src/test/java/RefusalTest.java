import java.util.ArrayList;
import java.util.List;

/**
 * "REFUSALS, of several the first in this order: UNKNOWN .., OUTSIDE .., NOT .., FULL. .. What is refused
 * changes nothing." Every call that can be refused, in towns in which it is, beside a twin that was not asked.
 */
public final class RefusalTest {
    private static final int NONE = UnlikeCounts.NONE;
    private static final int UNKNOWN = UnlikeCounts.UNKNOWN;
    private static final int OUTSIDE = UnlikeCounts.OUTSIDE;
    private static final int NOT = UnlikeCounts.NOT;
    private static final int FULL = UnlikeCounts.FULL;

    private static final int MIN = Integer.MIN_VALUE;
    private static final int MAX = Integer.MAX_VALUE;

    private static final Due DUE = new Due("RefusalTest");

    private interface Maker {
        UnlikeCounts make();
    }

    private interface Call {
        int on(UnlikeCounts x);
    }

    public static void main(String[] args) {
        theNumbers();
        fullTown();
        townOfSeven();
        townOfTwo();
        townOfOne();
        noPersons();
        questionsChangeNothing();
        farArguments();
        DUE.end();
    }

    /** "NONE is -1 .. They are far below all that is counted: -1000000001 and on." */
    private static void theNumbers() {
        DUE.is("NONE", NONE, -1);
        DUE.is("UNKNOWN", UNKNOWN, -1000000001);
        DUE.is("OUTSIDE", OUTSIDE, -1000000002);
        DUE.is("NOT", NOT, -1000000003);
        DUE.is("FULL", FULL, -1000000004);
    }

    private static void refused(Maker town, String name, int why, Call call) {
        UnlikeCounts asked = town.make();
        DUE.is(name, call.on(asked), why);
        sameAs(town, asked, name);
    }

    private static void sameAs(Maker town, UnlikeCounts asked, String name) {
        List<Integer> got = allOf(asked);
        List<Integer> want = allOf(town.make());
        DUE.is("how much there is to compare behind " + name, got.size(), want.size());
        for (int k = 0; k < Math.min(got.size(), want.size()); k++) {
            DUE.is("behind " + name + ": look " + k, got.get(k), want.get(k));
        }
    }

    /** All that can be seen of an object, with its images, its seed and its unread text. */
    private static List<Integer> allOf(UnlikeCounts x) {
        List<Integer> all = new ArrayList<>();
        all.add(x.fault());
        addTown(x, all);
        all.add(x.judge(0));
        all.add(x.judge(1));
        for (int i = 0; i < 2; i++) {
            all.add(x.goBack(i));
            addTown(x, all);
        }
        all.add(x.tear());
        all.add(x.town());
        all.add(x.fault());
        all.add(x.told(0));
        return all;
    }

    private static void addTown(UnlikeCounts x, List<Integer> all) {
        for (int what = 0; what <= 10; what++) {
            all.add(x.told(what));
        }
        for (int p = 0; p < x.told(0); p++) {
            all.add(x.count(p));
            all.add(x.friends(p));
            all.add(x.alike(p));
            int said = x.tell(p, 0);
            all.add(said);
            x.tell(p, said);
        }
        int seed = x.seed(0);
        all.add(seed);
        x.seed(seed);
    }

    private static void write(UnlikeCounts x, int p, int q, int days) {
        for (int day = 0; day < days; day++) {
            x.write(p, q, day % 2 == 0);
        }
    }

    // ---- 8 persons, 10 friendships, 30 days, 400 bytes, one image

    private static UnlikeCounts full() {
        UnlikeCounts x = new UnlikeCounts();
        Due.townOf(x, "people 8;barred 0 1;must 2 3;friends 0 2;friends 0 3;friends 0 4;friends 0 5;"
                + "friends 0 6;friends 0 7;friends 1 2;friends 1 3;friends 6 7;cost 2 3;");
        x.seed(77);
        x.tell(0, 3);
        x.keep(0);
        x.tell(0, 7);
        x.seed(78);
        x.tie(4, 5, true);
        write(x, 4, 5, 30);
        Due.feedAll(x, "people 3;cost 0 1;" + " ".repeat(382));
        return x;
    }

    private static void fullTown() {
        Maker town = RefusalTest::full;
        refused(town, "feed(0, 0)", OUTSIDE, x -> x.feed(0, 0));
        refused(town, "feed(9, 0)", OUTSIDE, x -> x.feed(9, 0));
        refused(town, "feed(1, 0)", FULL, x -> x.feed(1, 0));
        refused(town, "feed(8, 0)", FULL, x -> x.feed(8, 0));
        refused(town, "told(-1)", OUTSIDE, x -> x.told(-1));
        refused(town, "told(11)", OUTSIDE, x -> x.told(11));
        for (int wrong : new int[] {-1, 8, 9, 32, MIN, MAX}) {
            refused(town, "count(" + wrong + ")", UNKNOWN, x -> x.count(wrong));
            refused(town, "friends(" + wrong + ")", UNKNOWN, x -> x.friends(wrong));
            refused(town, "alike(" + wrong + ")", UNKNOWN, x -> x.alike(wrong));
            refused(town, "death(" + wrong + ")", UNKNOWN, x -> x.death(wrong));
            refused(town, "dies(" + wrong + ")", UNKNOWN, x -> x.dies(wrong));
            refused(town, "tell(" + wrong + ", 0)", UNKNOWN, x -> x.tell(wrong, 0));
            refused(town, "tell(" + wrong + ", 8)", UNKNOWN, x -> x.tell(wrong, 8));
            refused(town, "sure(" + wrong + ", 0)", UNKNOWN, x -> x.sure(wrong, 0));
            refused(town, "sure(" + wrong + ", 2)", UNKNOWN, x -> x.sure(wrong, 2));
            fullTownTwo(town, wrong, 0);
            fullTownTwo(town, 0, wrong);
        }
        for (int p = 0; p < 8; p++) {
            fullTownTwo(town, p, p);
        }
        refused(town, "weight(-2, 0)", UNKNOWN, x -> x.weight(-2, 0));
        refused(town, "good(8)", UNKNOWN, x -> x.good(8));
        refused(town, "good(-4)", UNKNOWN, x -> x.good(-4));
        refused(town, "bar(0, 1, 3)", OUTSIDE, x -> x.bar(0, 1, 3));
        refused(town, "bar(0, 1, -1)", OUTSIDE, x -> x.bar(0, 1, -1));
        refused(town, "tell(0, 8)", OUTSIDE, x -> x.tell(0, 8));
        refused(town, "tell(0, -1)", OUTSIDE, x -> x.tell(0, -1));
        refused(town, "judge(-1)", OUTSIDE, x -> x.judge(-1));
        refused(town, "judge(2)", OUTSIDE, x -> x.judge(2));
        refused(town, "drift(0)", OUTSIDE, x -> x.drift(0));
        refused(town, "drift(100)", OUTSIDE, x -> x.drift(100));
        refused(town, "drift(-1)", OUTSIDE, x -> x.drift(-1));
        refused(town, "seed(-1)", OUTSIDE, x -> x.seed(-1));
        refused(town, "seed(MIN)", OUTSIDE, x -> x.seed(MIN));
        refused(town, "tie(0, 1, true)", NOT, x -> x.tie(0, 1, true));
        refused(town, "tie(1, 0, true)", NOT, x -> x.tie(1, 0, true));
        refused(town, "tie(2, 3, false)", NOT, x -> x.tie(2, 3, false));
        refused(town, "tie(3, 2, false)", NOT, x -> x.tie(3, 2, false));
        refused(town, "born()", NOT, x -> x.born());
        refused(town, "weight(-1, 0)", NOT, x -> x.weight(-1, 0));
        refused(town, "weight(0, 1)", NOT, x -> x.weight(0, 1));
        refused(town, "weight(0, 2)", NOT, x -> x.weight(0, 2));
        refused(town, "goBack(1)", NOT, x -> x.goBack(1));
        refused(town, "birth()", FULL, x -> x.birth());
        refused(town, "write(0, 1, true)", FULL, x -> x.write(0, 1, true));
        refused(town, "write(7, 6, false)", FULL, x -> x.write(7, 6, false));
        for (int i : new int[] {-1, 2, MIN, MAX}) {
            refused(town, "keep(" + i + ")", UNKNOWN, x -> x.keep(i));
            refused(town, "goBack(" + i + ")", UNKNOWN, x -> x.goBack(i));
        }
        tooMany(town);
    }

    /** Whatever else is wrong with these calls: "UNKNOWN (a PERSON .. that there is not; one twice ..)". */
    private static void fullTownTwo(Maker town, int p, int q) {
        String two = "(" + p + ", " + q + ", ";
        refused(town, "pair" + two, UNKNOWN, x -> x.pair(p, q));
        refused(town, "tie" + two + "true)", UNKNOWN, x -> x.tie(p, q, true));
        refused(town, "tie" + two + "false)", UNKNOWN, x -> x.tie(p, q, false));
        refused(town, "bar" + two + "1)", UNKNOWN, x -> x.bar(p, q, 1));
        refused(town, "bar" + two + "2)", UNKNOWN, x -> x.bar(p, q, 2));
        refused(town, "bar" + two + "3)", UNKNOWN, x -> x.bar(p, q, 3));
        refused(town, "write" + two + "true)", UNKNOWN, x -> x.write(p, q, true));
        if (p != NONE) {
            refused(town, "weight" + two, UNKNOWN, x -> x.weight(p, q));
        }
    }

    /** What towns of 6 persons at most alone are asked: OUTSIDE ahead of NOT. */
    private static void tooMany(Maker town) {
        for (int what = 0; what <= 2; what++) {
            int which = what;
            refused(town, "nearest(" + which + ")", NOT, x -> x.nearest(which));
        }
        refused(town, "nearest(-1)", OUTSIDE, x -> x.nearest(-1));
        refused(town, "nearest(3)", OUTSIDE, x -> x.nearest(3));
        refused(town, "even(0, 0)", NOT, x -> x.even(0, 0));
        refused(town, "even(5, 1)", NOT, x -> x.even(5, 1));
        refused(town, "even(-1, 0)", OUTSIDE, x -> x.even(-1, 0));
        refused(town, "even(6, 0)", OUTSIDE, x -> x.even(6, 0));
        refused(town, "even(0, -1)", OUTSIDE, x -> x.even(0, -1));
        refused(town, "even(0, 2)", OUTSIDE, x -> x.even(0, 2));
        refused(town, "canBe()", NOT, x -> x.canBe());
        refused(town, "liar()", NOT, x -> x.liar());
        refused(town, "sure(0, 0)", NOT, x -> x.sure(0, 0));
        refused(town, "sure(0, 1)", NOT, x -> x.sure(0, 1));
        refused(town, "sure(0, -1)", OUTSIDE, x -> x.sure(0, -1));
        refused(town, "sure(0, 2)", OUTSIDE, x -> x.sure(0, 2));
    }

    // ---- 7 persons

    private static void townOfSeven() {
        Maker town = () -> {
            UnlikeCounts x = new UnlikeCounts();
            Due.townOf(x, "people 7;friends 5 6;barred 0 6;must 1 2;cost 9 9;");
            x.tell(6, 7);
            x.keep(1);
            return x;
        };
        tooMany(town);
        refused(town, "good(7)", UNKNOWN, x -> x.good(7));
        refused(town, "tie(6, 7, true)", UNKNOWN, x -> x.tie(6, 7, true));
        refused(town, "goBack(0)", NOT, x -> x.goBack(0));
        DUE.is("born() of 7 is none of these", town.make().born() > 0 ? 1 : 0, 1);
    }

    // ---- 2 persons, 1 person, none

    private static void townOfTwo() {
        Maker town = () -> {
            UnlikeCounts x = new UnlikeCounts();
            Due.townOf(x, "people 2;friends 0 1;");
            x.tell(1, 5);
            return x;
        };
        refused(town, "dies(0)", NOT, x -> x.dies(0));
        refused(town, "dies(1)", NOT, x -> x.dies(1));
        refused(town, "dies(2)", UNKNOWN, x -> x.dies(2));
        refused(town, "dies(-1)", UNKNOWN, x -> x.dies(-1));
        DUE.is("good(-1) of 2 is none of these", town.make().good(-1), 0);
    }

    private static void townOfOne() {
        Maker town = () -> {
            UnlikeCounts x = new UnlikeCounts();
            Due.townOf(x, "people 1;");
            x.tell(0, 7);
            x.seed(5);
            return x;
        };
        for (int p = -3; p <= 0; p++) {
            int which = p;
            refused(town, "good(" + which + ")", NOT, x -> x.good(which));
        }
        refused(town, "good(1)", UNKNOWN, x -> x.good(1));
        refused(town, "good(-4)", UNKNOWN, x -> x.good(-4));
        refused(town, "dies(0)", NOT, x -> x.dies(0));
        refused(town, "dies(1)", UNKNOWN, x -> x.dies(1));
        refused(town, "pair(0, 0)", UNKNOWN, x -> x.pair(0, 0));
        refused(town, "pair(0, 1)", UNKNOWN, x -> x.pair(0, 1));
        refused(town, "tie(0, 0, false)", UNKNOWN, x -> x.tie(0, 0, false));
        refused(town, "write(0, 0, false)", UNKNOWN, x -> x.write(0, 0, false));
        refused(town, "weight(0, 0)", UNKNOWN, x -> x.weight(0, 0));
    }

    private static void noPersons() {
        Maker town = () -> {
            UnlikeCounts x = new UnlikeCounts();
            x.seed(5);
            x.keep(1);
            x.feed(1, 'x');
            return x;
        };
        for (int p = -3; p <= -1; p++) {
            int which = p;
            refused(town, "good(" + which + ")", NOT, x -> x.good(which));
        }
        refused(town, "good(-4)", UNKNOWN, x -> x.good(-4));
        refused(town, "good(0)", UNKNOWN, x -> x.good(0));
        refused(town, "born()", NOT, x -> x.born());
        refused(town, "drift(1)", NOT, x -> x.drift(1));
        refused(town, "drift(99)", NOT, x -> x.drift(99));
        refused(town, "drift(0)", OUTSIDE, x -> x.drift(0));
        refused(town, "drift(100)", OUTSIDE, x -> x.drift(100));
        refused(town, "count(0)", UNKNOWN, x -> x.count(0));
        refused(town, "friends(0)", UNKNOWN, x -> x.friends(0));
        refused(town, "alike(0)", UNKNOWN, x -> x.alike(0));
        refused(town, "pair(0, 1)", UNKNOWN, x -> x.pair(0, 1));
        refused(town, "tie(0, 1, true)", UNKNOWN, x -> x.tie(0, 1, true));
        refused(town, "bar(0, 1, 1)", UNKNOWN, x -> x.bar(0, 1, 1));
        refused(town, "bar(0, 1, 9)", UNKNOWN, x -> x.bar(0, 1, 9));
        refused(town, "death(0)", UNKNOWN, x -> x.death(0));
        refused(town, "dies(0)", UNKNOWN, x -> x.dies(0));
        refused(town, "tell(0, 0)", UNKNOWN, x -> x.tell(0, 0));
        refused(town, "sure(0, 0)", UNKNOWN, x -> x.sure(0, 0));
        refused(town, "sure(0, 2)", UNKNOWN, x -> x.sure(0, 2));
        refused(town, "weight(0, 1)", UNKNOWN, x -> x.weight(0, 1));
        refused(town, "write(0, 1, true)", UNKNOWN, x -> x.write(0, 1, true));
        refused(town, "goBack(0)", NOT, x -> x.goBack(0));
        refused(town, "nearest(3)", OUTSIDE, x -> x.nearest(3));
        refused(town, "even(6, 0)", OUTSIDE, x -> x.even(6, 0));
    }

    // ---- what is only asked

    private static void questionsChangeNothing() {
        Maker six = () -> {
            UnlikeCounts x = new UnlikeCounts();
            Due.townOf(x, "people 6;friends 0 1;friends 1 2;barred 0 3;must 4 5;cost 2 7;");
            x.tell(0, 5);
            x.keep(0);
            x.keep(1);
            x.seed(123456789);
            write(x, 0, 1, 5);
            x.write(4, 5, false);
            Due.feedAll(x, "people 2;");
            return x;
        };
        UnlikeCounts asked = six.make();
        for (int p = -3; p < 6; p++) {
            asked.good(p);
        }
        asked.born();
        for (int p = 0; p < 6; p++) {
            asked.dies(p);
            asked.sure(p, p % 2);
            asked.weight(p, (p + 1) % 6);
            asked.even(p, p % 2);
        }
        asked.nearest(0);
        asked.canBe();
        asked.liar();
        asked.weight(-1, 0);
        asked.sides(4, 4);
        asked.sorts(5);
        asked.made(8, 1, 3, 4);
        asked.judge(0);
        asked.judge(1);
        sameAs(six, asked, "questions");
    }

    // ---- "No call may ever throw": numbers from all over, in small and in full towns

    private static void farArguments() {
        int[] far = {MIN, MIN + 1, -1000000004, -65536, -33, -32, -5, 9, 31, 32, 33, 64, 255, 256, 65536, MAX - 1, MAX};
        Maker[] towns = {UnlikeCounts::new, RefusalTest::full};
        for (Maker town : towns) {
            for (int v : far) {
                farOne(town, v);
                for (int w : far) {
                    farTwo(town, v, w);
                }
            }
        }
    }

    private static void farOne(Maker town, int v) {
        UnlikeCounts x = town.make();
        DUE.is("feed(" + v + ")", x.feed(v, v), OUTSIDE);
        DUE.is("told(" + v + ")", x.told(v == 9 ? 11 : v), OUTSIDE);
        DUE.is("good(" + v + ")", x.good(v), UNKNOWN);
        DUE.is("nearest(" + v + ")", x.nearest(v), OUTSIDE);
        DUE.is("sorts(" + v + ")", x.sorts(v), OUTSIDE);
        DUE.is("judge(" + v + ")", x.judge(v), OUTSIDE);
        DUE.is("keep(" + v + ")", x.keep(v), UNKNOWN);
        DUE.is("goBack(" + v + ")", x.goBack(v), UNKNOWN);
        DUE.is("death(" + v + ")", x.death(v), UNKNOWN);
        DUE.is("dies(" + v + ")", x.dies(v), UNKNOWN);
        for (int k = 0; k < 4; k++) {
            DUE.is("made with " + v + " in place " + k,
                    x.made(k == 0 ? v : 8, k == 1 ? v : 0, k == 2 ? v : 0, k == 3 ? v : 1), OUTSIDE);
        }
        if (v < 1 || v > 99) {
            DUE.is("drift(" + v + ")", x.drift(v), OUTSIDE);
        }
        sameAs(town, x, "far " + v);
    }

    private static void farTwo(Maker town, int v, int w) {
        UnlikeCounts x = town.make();
        DUE.is("pair", x.pair(v, w), UNKNOWN);
        DUE.is("tie", x.tie(v, w, true), UNKNOWN);
        DUE.is("bar", x.bar(v, w, v), UNKNOWN);
        DUE.is("even", x.even(v, w), OUTSIDE);
        DUE.is("tell", x.tell(v, w), UNKNOWN);
        DUE.is("sure", x.sure(v, w), UNKNOWN);
        DUE.is("weight", x.weight(v, w), UNKNOWN);
        DUE.is("sides", x.sides(v, w), OUTSIDE);
        DUE.is("write", x.write(v, w, false), UNKNOWN);
    }
}
