import java.util.Random;

/** Runs of chance calls, the class beside the model; the chance is the same each time. */
public final class ModelTest {
    private static final Due DUE = new Due("ModelTest");
    private static final String[] WORDS = {"people", "friends", "barred", "must", "cost", "peopl", "costs", "a"};

    private static final int[] WILD = {Integer.MIN_VALUE, Integer.MAX_VALUE, -1000000001, -33, 31, 32, 64, 65536};

    private final Random chance;
    private final UnlikeCounts x = new UnlikeCounts();
    private final Model model = new Model();
    private final String run;
    private int step;

    private ModelTest(String run, long start) {
        this.run = run;
        this.chance = new Random(start);
    }

    /** Arguments, if any: how many runs, and the start of their chance. */
    public static void main(String[] args) {
        int runs = args.length > 0 ? Integer.parseInt(args[0]) : 20;
        long start = args.length > 1 ? Long.parseLong(args[1]) : 0;
        for (int i = 0; i < runs; i++) {
            new ModelTest("calls " + (start + i), start + i).calls(120);
        }
        for (int i = 0; i < 20 * runs; i++) {
            new ModelTest("texts " + (start + i), start + i).texts(20);
        }
        DUE.end();
    }

    private void same(String call, int got, int want) {
        DUE.is(run + " step " + step + ": " + call, got, want);
    }

    // ---- chance calls

    private void calls(int number) {
        tellTown(goodText());
        for (step = 0; step < number; step++) {
            change();
            look();
            ask();
            ask();
        }
    }

    /** Mostly a person that there is, at times one that there is not. */
    private int person() {
        int n = model.told(0);
        if (chance.nextInt(50) == 0) {
            return WILD[chance.nextInt(WILD.length)];
        }
        return n == 0 || chance.nextInt(25) == 0 ? chance.nextInt(12) - 2 : chance.nextInt(n);
    }

    /** Mostly within the bounds, at times by one or two outside, seldom far. */
    private int near(int least, int most) {
        if (chance.nextInt(50) == 0) {
            return WILD[chance.nextInt(WILD.length)];
        }
        return chance.nextInt(25) == 0 ? chance.nextInt(most - least + 5) + least - 2
                : least + chance.nextInt(most - least + 1);
    }

    private void change() {
        int p = person();
        int q = person();
        boolean is = chance.nextBoolean();
        switch (chance.nextInt(17)) {
            case 0, 1, 2, 3 -> same("tie", x.tie(p, q, is), model.tie(p, q, is));
            case 4, 5 -> {
                int v = near(0, 2);
                same("bar", x.bar(p, q, v), model.bar(p, q, v));
            }
            case 6 -> same("birth", x.birth(), model.birth());
            case 7 -> same("death", x.death(p), model.death(p));
            case 8, 9, 10 -> {
                int v = near(0, chance.nextInt(4) == 0 ? 7 : 4);
                same("tell", x.tell(p, v), model.tell(p, v));
            }
            case 11, 12 -> same("write", x.write(p, q, is), model.write(p, q, is));
            case 13 -> {
                int weeks = near(1, chance.nextInt(4) == 0 ? 99 : 4);
                same("drift", x.drift(weeks), model.drift(weeks));
            }
            default -> changeSeldom();
        }
    }

    private void changeSeldom() {
        int i = near(0, 1);
        switch (chance.nextInt(8)) {
            case 0, 1 -> same("keep", x.keep(i), model.keep(i));
            case 2, 3 -> same("goBack", x.goBack(i), model.goBack(i));
            case 4 -> {
                int v = chance.nextInt();
                same("seed", x.seed(v), model.seed(v));
            }
            case 5 -> same("tear", x.tear(), model.tear());
            case 6 -> tellTown(goodText());
            default -> tellTown(anyText());
        }
    }

    /** What is cheap is asked at each step. */
    private void look() {
        for (int what = -1; what <= 11; what++) {
            same("told " + what, x.told(what), model.told(what));
        }
        int p = person();
        int q = person();
        same("count", x.count(p), model.count(p));
        same("friends", x.friends(p), model.friends(p));
        same("alike", x.alike(p), model.alike(p));
        same("pair", x.pair(p, q), model.pair(p, q));
        same("judge 0", x.judge(0), model.judge(0));
        same("judge 1", x.judge(1), model.judge(1));
        int what = near(0, 1);
        same("judge", x.judge(what), model.judge(what));
        int few = near(-1, 0);
        same("feed " + few, x.feed(few, 0), model.feed(few, 0));
        int n = near(2, 8);
        int way = near(0, 1);
        int i = near(0, 7);
        int j = near(0, 7);
        same("made", x.made(n, way, i, j), model.made(n, way, i, j));
        same("weight g", x.weight(-1, q), model.weight(-1, q));
        same("weight", x.weight(p, q), model.weight(p, q));
    }

    /** What the model answers slowly is asked one at a time, in any order. */
    private void ask() {
        int p = person();
        int what = near(0, 1);
        switch (chance.nextInt(10)) {
            case 0, 1 -> {
                int row = chance.nextInt(5) - 3;
                same("good " + row, x.good(row), model.good(row));
            }
            case 2 -> same("good", x.good(p), model.good(p));
            case 3 -> same("born", x.born(), model.born());
            case 4 -> same("dies", x.dies(p), model.dies(p));
            case 5 -> {
                int which = near(0, 2);
                same("nearest", x.nearest(which), model.nearest(which));
            }
            case 6 -> {
                int degree = near(0, 5);
                same("even", x.even(degree, what), model.even(degree, what));
            }
            case 7 -> same("canBe", x.canBe(), model.canBe());
            case 8 -> same("sure", x.sure(p, what), model.sure(p, what));
            default -> same("liar", x.liar(), model.liar());
        }
    }

    // ---- chance texts

    private void texts(int number) {
        for (step = 0; step < number; step++) {
            tellTown(chance.nextInt(3) == 0 ? goodText() : anyText());
            for (int what = 0; what <= 10; what++) {
                same("told " + what, x.told(what), model.told(what));
            }
        }
    }

    private void tellTown(String text) {
        int at = 0;
        while (at < text.length()) {
            int n = Math.min(1 + chance.nextInt(8), text.length() - at);
            long word = chance.nextLong();
            for (int k = 0; k < n; k++) {
                word = word << 8 | text.charAt(at + k) & 255;
            }
            same("feed", x.feed(n, word), model.feed(n, word));
            at += n;
        }
        same("town of '" + text + "'", x.town(), model.town());
        same("fault of '" + text + "'", x.fault(), model.fault());
    }

    private String gap() {
        return chance.nextInt(3) > 0 ? "" : " ".repeat(1 + chance.nextInt(2));
    }

    private String figures(int v) {
        return chance.nextInt(8) == 0 ? "0" + v : "" + v;
    }

    private String goodText() {
        int n = 1 + chance.nextInt(8);
        int dense = chance.nextInt(6);
        int barred = chance.nextInt(5);
        StringBuilder s = new StringBuilder();
        s.append(gap()).append("people").append(gap()).append(figures(n)).append(gap()).append(';').append(gap());
        if (chance.nextBoolean()) {
            s.append("cost").append(gap()).append(1 + chance.nextInt(9)).append(' ').append(gap());
            s.append(1 + chance.nextInt(9)).append(gap()).append(';').append(gap());
        }
        for (int p = 0; p < n; p++) {
            for (int q = p + 1; q < n; q++) {
                String word = chance.nextInt(8) < barred ? chance.nextBoolean() ? "barred" : "must" : "friends";
                if (chance.nextInt(6) < dense) {
                    boolean turned = chance.nextBoolean();
                    String clause = word + (chance.nextBoolean() ? " " : gap()) + (turned ? q : p) + " "
                            + (turned ? p : q) + ";" + (chance.nextInt(6) == 0 ? gap() : "");
                    if (s.length() + clause.length() <= 400) {
                        s.append(clause);
                    }
                }
            }
        }
        return s.toString();
    }

    /** A good text with some places spoiled, or pieces in any order. */
    private String anyText() {
        StringBuilder s = new StringBuilder(chance.nextInt(4) == 0 ? "" : goodText());
        int spoils = 1 + chance.nextInt(3);
        for (int i = 0; i < spoils; i++) {
            int at = chance.nextInt(s.length() + 1);
            switch (chance.nextInt(6)) {
                case 0 -> s.insert(at, " 0123456789;;".charAt(chance.nextInt(13)));
                case 1 -> s.insert(at, (char) chance.nextInt(256));
                case 2 -> s.setLength(at);
                case 3 -> s.insert(at, WORDS[chance.nextInt(WORDS.length)]);
                case 4 -> {
                    if (at < s.length()) {
                        s.deleteCharAt(at);
                    }
                }
                default -> {
                    for (int k = 0; k < 4; k++) {
                        s.append(WORDS[chance.nextInt(WORDS.length)]).append(gap()).append(chance.nextInt(10));
                        s.append(' ').append(chance.nextInt(10)).append(gap()).append(';');
                    }
                }
            }
        }
        return s.substring(0, Math.min(400, s.length()));
    }
}
