/** Counts the answers that are not as due. */
final class Due {
    private final String test;
    private int asked;
    private int wrong;

    Due(String test) {
        this.test = test;
    }

    void is(String call, long got, long want) {
        asked++;
        if (got != want) {
            wrong++;
            if (wrong <= 20) {
                System.out.println(test + ": " + call + " answered " + got + ", due is " + want);
            }
        }
    }

    void holds(String what, boolean so) {
        is(what, so ? 1 : 0, 1);
    }

    void end() {
        System.out.println(test + ": " + asked + " asked, " + wrong + " wrong");
        if (wrong != 0) {
            System.exit(1);
        }
    }

    /** Feeds a text in words of eight bytes and answers what town() does. */
    static int townOf(UnlikeCounts x, String text) {
        feedAll(x, text);
        return x.town();
    }

    static int feedAll(UnlikeCounts x, String text) {
        int answer = x.told(9);
        for (int start = 0; start < text.length(); start += 8) {
            int end = Math.min(start + 8, text.length());
            long word = 0;
            for (int k = start; k < end; k++) {
                word = word << 8 | text.charAt(k) & 255;
            }
            answer = x.feed(end - start, word);
        }
        return answer;
    }
}
