/** THE TEXT at its bounds, sentence by sentence of the document (1 THE TOWN, promises 2, 3 and 4). */
public final class TextBoundsTest {
    private static final int NONE = UnlikeCounts.NONE;
    private static final int OUTSIDE = UnlikeCounts.OUTSIDE;
    private static final int NOT = UnlikeCounts.NOT;
    private static final int FULL = UnlikeCounts.FULL;

    private static final Due DUE = new Due("TextBoundsTest");
    private static final String[] TWOS = {"friends", "barred", "must"};

    public static void main(String[] args) {
        feedTakesOneToEightBytes();
        feedLeavesOutHigherBytes();
        feedTakes400BytesAtMost();
        feedFillsToTheLastByte();
        aTextOf400Bytes();
        anEmptyText();
        blanksAlone();
        peopleOneToEight();
        peopleFirst();
        peopleOnce();
        unlikePersons();
        personsThatThereAre();
        eachTwoOnce();
        allPairsOnce();
        whoMustAreFriends();
        costsOneToNine();
        costsUntold();
        costOnce();
        numbersOfOneToThreeFigures();
        blanksAnywhere();
        noBlanksWithin();
        sideBySide();
        theEndHasTheFault();
        ofFaultsTheFirstByte();
        ofFaultsTheLeast();
        everyByteAlone();
        everyByteBehindTheWord();
        everyByteBehindTheNumber();
        everyByteBehindTheClause();
        theTextIsEmptyThen();
        noBookNoImagesTheSeedStays();
        withAFaultAllIsAsItWas();
        faultOfTheLatest();
        DUE.end();
    }

    private static void due(String call, long got, long want) {
        DUE.is(call, got, want);
    }

    private static void fine(String text, int persons) {
        UnlikeCounts x = new UnlikeCounts();
        due("town() of '" + text + "'", Due.townOf(x, text), persons);
        due("fault() of '" + text + "'", x.fault(), NONE);
        due("told(0) of '" + text + "'", x.told(0), persons);
    }

    private static void fault(String text, int kind, int place) {
        UnlikeCounts x = new UnlikeCounts();
        due("town() of '" + text + "'", Due.townOf(x, text), -10 - kind);
        due("fault() of '" + text + "'", x.fault(), place);
        due("told(0) of '" + text + "'", x.told(0), 0);
    }

    // ---- P2: "Up to eight bytes (n 1 .. 8) of a long, the highest of these first, come behind THE TEXT:
    // how many it has. OUTSIDE, FULL (400)."

    private static void feedTakesOneToEightBytes() {
        UnlikeCounts x = new UnlikeCounts();
        int[] outside = {0, 9, -1, 16, 256, -8, Integer.MIN_VALUE, Integer.MAX_VALUE};
        for (int n : outside) {
            due("feed(" + n + ", ..)", x.feed(n, 0x7070707070707070L), OUTSIDE);
            due("bytes behind feed(" + n + ", ..)", x.told(9), 0);
        }
        int length = 0;
        for (int n = 1; n <= 8; n++) {
            length += n;
            due("feed(" + n + ", ..)", x.feed(n, 0x2020202020202020L), length);
            due("told(9)", x.told(9), length);
        }
    }

    private static void feedLeavesOutHigherBytes() {
        String text = "people 3;friends 0 2;";
        for (int n = 1; n <= 8; n++) {
            UnlikeCounts x = new UnlikeCounts();
            for (int at = 0; at < text.length(); at += n) {
                int k = Math.min(n, text.length() - at);
                // All bits above the bytes that count are set: they are not looked at.
                long word = -1;
                for (int i = 0; i < k; i++) {
                    word = word << 8 | text.charAt(at + i);
                }
                due("feed(" + k + ", ..)", x.feed(k, word), at + k);
            }
            due("town() by " + n, x.town(), 3);
            due("told(2) by " + n, x.told(2), 2);
        }
        UnlikeCounts y = new UnlikeCounts();
        due("feed(8, -1)", y.feed(8, -1), 8);
        due("town() of bytes 255", y.town(), -11);
        due("feed(8, MIN)", y.feed(8, Long.MIN_VALUE), 8);
        due("town() of a byte 128", y.town(), -11);
        due("fault()", y.fault(), 0);
    }

    private static UnlikeCounts blanks(int bytes) {
        UnlikeCounts x = new UnlikeCounts();
        Due.feedAll(x, " ".repeat(bytes));
        due("told(9) of " + bytes, x.told(9), bytes);
        return x;
    }

    private static void feedTakes400BytesAtMost() {
        for (int have = 390; have <= 400; have++) {
            for (int n = 1; n <= 8; n++) {
                UnlikeCounts x = blanks(have);
                boolean fits = have + n <= 400;
                due("feed(" + n + ", ..) at " + have, x.feed(n, 0), fits ? have + n : FULL);
                due("told(9) then", x.told(9), fits ? have + n : have);
            }
        }
        UnlikeCounts full = blanks(400);
        due("feed(0, ..) at 400", full.feed(0, 0), OUTSIDE);
        due("feed(9, ..) at 400", full.feed(9, 0), OUTSIDE);
    }

    private static void feedFillsToTheLastByte() {
        UnlikeCounts x = blanks(396);
        due("eight are too many", x.feed(8, 0), FULL);
        due("five are too many", x.feed(5, 0), FULL);
        due("four fit", x.feed(4, 0x20202020L), 400);
        due("none fits", x.feed(1, 0x20), FULL);
        due("town()", x.town(), 0);
        due("room again", x.feed(8, 0), 8);
    }

    private static void aTextOf400Bytes() {
        String clause = "people 2;friends 0 1;";
        String blanks = " ".repeat(400 - clause.length());
        fine(clause + blanks, 2);
        fine(blanks + clause, 2);
        fault(blanks + clause.substring(0, clause.length() - 1) + ".", 1, 399);
        fault(blanks + clause.substring(0, clause.length() - 1) + " ", 1, 400);
        fault("p".repeat(400), 1, 0);
        fault("people " + "1".repeat(393), 2, 7);
        fault(";".repeat(400), 1, 0);
    }

    // ---- "An empty text: no PERSONS."

    private static void anEmptyText() {
        fine("", 0);
        UnlikeCounts x = new UnlikeCounts();
        due("people", Due.townOf(x, "people 8;must 0 7;barred 1 2;cost 3 4;"), 8);
        due("an empty text behind", x.town(), 0);
        int[] want = {0, 0, 0, 0, 0, 1, 1, 0, 0, 0, 0};
        for (int what = 0; what < want.length; what++) {
            due("told(" + what + ")", x.told(what), want[what]);
        }
        due("fault()", x.fault(), NONE);
        due("a birth", x.birth(), 0);
        due("another", x.birth(), 1);
        due("nothing is left", x.told(2) + x.told(3) + x.told(4), 0);
    }

    private static void blanksAlone() {
        fine(" ", 0);
        fine(" ".repeat(400), 0);
    }

    // ---- "'people' N ';' (1 .. 8 PERSONS; first, once)"

    private static void peopleOneToEight() {
        fault("people 0;", 2, 7);
        for (int n = 1; n <= 8; n++) {
            fine("people " + n + ";", n);
        }
        fault("people 9;", 2, 7);
        fault("people 10;", 2, 7);
        fault("people 18;", 2, 7);
        fault("people 256;", 2, 7);
        fault("people 257;", 2, 7);
        fault("people 999;", 2, 7);
    }

    private static void peopleFirst() {
        for (String word : TWOS) {
            fault(word + " 0 1;people 2;", 1, 0);
            fault("  " + word + " 0 1;people 2;", 1, 2);
        }
        fault("cost 1 1;people 2;", 1, 0);
        fault("town 2;people 2;", 1, 0);
        fault("2;people 2;", 1, 0);
        fault(";people 2;", 1, 0);
        // A bad number of people is met ahead of all that could stand behind it.
        fault("people 9;people 2;", 2, 7);
    }

    private static void peopleOnce() {
        fault("people 2;people 2;", 3, 9);
        fault("people 2;people 9;", 3, 9);
        fault("people 2;people", 3, 9);
        fault("people 2; people;", 3, 10);
        fault("people 2;cost 1 1;friends 0 1;people 2;", 3, 30);
        fault("people 2;peoples 2;", 1, 9);
    }

    // ---- "'friends' P Q ';' 'barred' P Q ';' 'must' P Q ';' (unlike PERSONS; each two once in one of these
    // three at most, either way round; who MUST are friends)"

    private static void unlikePersons() {
        for (String word : TWOS) {
            int first = 10 + word.length();
            fault("people 1;" + word + " 0 0;", 4, first + 2);
            for (int p = 0; p < 8; p++) {
                fault("people 8;" + word + " " + p + " " + p + ";", 4, first + 2);
            }
            fault("people 8;" + word + " 7 007;", 4, first + 2);
            fault("people 8;" + word + " 007 7;", 4, first + 4);
            fault("people 8;" + word + " 7 7", 4, first + 2);
        }
    }

    private static void personsThatThereAre() {
        for (String word : TWOS) {
            int first = 10 + word.length();
            for (int n = 2; n <= 8; n++) {
                String head = "people " + n + ";" + word + " ";
                fine(head + "0 " + (n - 1) + ";", n);
                fine(head + (n - 1) + " 0;", n);
                fault(head + "0 " + n + ";", 2, first + 2);
                fault(head + n + " 0;", 2, first);
                fault(head + n + " " + n + ";", 2, first);
                fault(head + "0 999;", 2, first + 2);
            }
            fault("people 1;" + word + " 0 1;", 2, first + 2);
            fault("people 1;" + word + " 1 0;", 2, first);
        }
    }

    private static void eachTwoOnce() {
        for (String one : TWOS) {
            for (String other : TWOS) {
                String head = "people 3;" + one + " 0 2;" + other + " ";
                int q = head.length() + 2;
                fault(head + "0 2;", 4, q);
                fault(head + "2 0;", 4, q);
                fault(head + "2 000;", 4, q);
                fault(head + "2 0", 4, q);
                fine(head + "0 1;", 3);
                fine(head + "2 1;", 3);
            }
        }
    }

    private static void allPairsOnce() {
        for (String word : TWOS) {
            StringBuilder text = new StringBuilder("people 8;");
            for (int p = 0; p < 8; p++) {
                for (int q = p + 1; q < 8; q++) {
                    text.append(word).append(' ').append(p).append(' ').append(q).append(';');
                }
            }
            fine(text.toString(), 8);
            fault(text + word + " 7 6;", 4, text.length() + word.length() + 3);
            UnlikeCounts x = new UnlikeCounts();
            Due.townOf(x, text.toString());
            int all = (1 << 28) - 1;
            due(word + ": the TOWN", x.told(2), word.equals("barred") ? 0 : all);
            due(word + ": barred ones", x.told(3), word.equals("barred") ? all : 0);
            due(word + ": ones that must be", x.told(4), word.equals("must") ? all : 0);
            due(word + ": friendships", x.told(1), word.equals("barred") ? 0 : 28);
        }
    }

    private static void whoMustAreFriends() {
        UnlikeCounts x = new UnlikeCounts();
        Due.townOf(x, "people 4;must 3 1;barred 0 1;");
        due("friends(1)", x.friends(1), 8);
        due("friends(3)", x.friends(3), 2);
        due("friends(0)", x.friends(0), 0);
        due("the COUNT TOLD counts it", x.tell(3, 0), 1);
    }

    // ---- "'cost' M D ';' (1 .. 9 both: of making, of dropping a friendship; 1 1 untold; once)"

    private static void costsOneToNine() {
        for (int c = 1; c <= 9; c++) {
            fine("people 2;cost " + c + " 1;", 2);
            fine("people 2;cost 1 " + c + ";", 2);
        }
        fault("people 2;cost 0 1;", 2, 14);
        fault("people 2;cost 10 1;", 2, 14);
        fault("people 2;cost 1 0;", 2, 16);
        fault("people 2;cost 1 10;", 2, 16);
        fault("people 2;cost 0 0;", 2, 14);
        fault("people 2;cost 999 1;", 2, 14);
        UnlikeCounts x = new UnlikeCounts();
        Due.townOf(x, "people 2;cost 9 1;");
        due("M", x.told(5), 9);
        due("D", x.told(6), 1);
    }

    private static void costsUntold() {
        UnlikeCounts x = new UnlikeCounts();
        Due.townOf(x, "people 2;cost 8 9;");
        Due.townOf(x, "people 2;");
        due("M", x.told(5), 1);
        due("D", x.told(6), 1);
    }

    private static void costOnce() {
        fault("people 2;cost 1 1;cost 1 1;", 3, 18);
        fault("people 2;cost 1 1;cost", 3, 18);
        fault("people 2;cost 1 1;cost 0 0;", 3, 18);
        fault("people 2;cost 2 2; friends 0 1; cost 2 2;", 3, 32);
        fault("people 2;cost 1 1;people 2;cost 1 1;", 3, 18);
        UnlikeCounts x = new UnlikeCounts();
        due("once in a text", Due.townOf(x, "people 2;cost 1 1;"), 2);
        due("once in the next", Due.townOf(x, "people 2;cost 1 1;"), 2);
    }

    // ---- "NUMBERS have one to three figures"; "2 a NUMBER of four figures or more, or out of its bounds"

    private static void numbersOfOneToThreeFigures() {
        fine("people 2;", 2);
        fine("people 02;", 2);
        fine("people 002;", 2);
        fault("people 0002;", 2, 7);
        fault("people 00002;", 2, 7);
        fault("people 4294967298;", 2, 7);
        fault("people 18446744073709551618;", 2, 7);
        fine("people 2;friends 000 001;", 2);
        fault("people 2;friends 0000 001;", 2, 17);
        fault("people 2;friends 000 0001;", 2, 21);
        fine("people 2;cost 009 001;", 2);
        fault("people 2;cost 0009 1;", 2, 14);
        fault("people 2;cost 1 0009;", 2, 16);
        fault("people -1;", 1, 7);
        fault("people +1;", 1, 7);
    }

    // ---- "words are letters a .. z side by side; blanks (32) may stand anywhere but within words and
    // NUMBERS; two words, two NUMBERS side by side need one"

    private static void blanksAnywhere() {
        fine(" people 2 ; friends 0 1 ; cost 1 1 ; ", 2);
        fine("people2;friends0 1;cost1 1;", 2);
        fine("   people   2   ;   must   1   0   ;", 2);
    }

    private static void noBlanksWithin() {
        fault("peo ple 2;", 1, 0);
        fault("people 2;fr iends 0 1;", 1, 9);
        fault("people 1 2;", 1, 9);
        fault("people 2;cost 1 0 2;", 2, 16);
        fault("people 2;friends 0 1 1;", 1, 21);
        fault("people\n2;", 1, 6);
        fault("people\t2;", 1, 6);
        fault("people" + (char) 0 + "2;", 1, 6);
        fault("people" + (char) 160 + "2;", 1, 6);
    }

    private static void sideBySide() {
        fault("peoplepeople 2;", 1, 0);
        fault("people 2;friendsfriends 0 1;", 1, 9);
        fault("people 2;friends friends 0 1;", 1, 17);
        // Figures side by side are one NUMBER: the other one is missing at the sign behind.
        fault("people 8;friends 01;", 1, 19);
        fault("people 8;cost 11;", 2, 14);
        fault("people 8;cost 01;", 1, 16);
        fault("people 2friends 0 1;", 1, 8);
    }

    // ---- "FAULTS, at the first byte that has one (the end at the text's length), of these the least"

    private static void theEndHasTheFault() {
        String text = "people 2;friends 0 1;";
        for (int length = 1; length <= text.length(); length++) {
            String part = text.substring(0, length);
            if (length == 9 || length == text.length()) {
                fine(part, 2);
            } else if (length < 6) {
                fault(part, 1, 0);
            } else if (length > 9 && length < 16) {
                fault(part, 1, 9);
            } else {
                fault(part, 1, length);
                fault(part + "  ", 1, length + 2);
            }
        }
        fault("people 2;cost", 1, 13);
        fault("people 2;cost 1", 1, 15);
        fault("people 2;cost 1 ", 1, 16);
        fault("people 2;cost 1 1", 1, 17);
    }

    private static void ofFaultsTheFirstByte() {
        fault("people 0;friends 0 0;oh", 2, 7);
        fault("people 2;oh;friends 0 0;", 1, 9);
        fault("people 2;friends 0 0;people 2;", 4, 19);
        fault("people 2;friends 0 1;friends 0 1;cost 0 0;", 4, 31);
        fault("people 2;cost 1 1;cost 1 1;friends 0 0;", 3, 18);
        fault("people 2;friends 0 2 2", 2, 19);
    }

    private static void ofFaultsTheLeast() {
        // A word that is told again, where no word can stand: 1, not 3.
        fault("people people", 1, 7);
        fault("people 2;cost 1 1;friends cost 1;", 1, 26);
        fault("people 2 people 2;", 1, 9);
        // A NUMBER where none can stand: 1, not 2.
        fault("people 2 9999;", 1, 9);
        fault("people 2;9999", 1, 9);
        // A Q that is no PERSON, or too long, though it would be like P: 2, not 4.
        fault("people 2;friends 0 0000;", 2, 19);
    }

    private static void everyByteAlone() {
        for (int b = 0; b < 256; b++) {
            String text = "" + (char) b;
            if (b == ' ') {
                fine(text, 0);
            } else {
                fault(text, 1, 0);
            }
        }
    }

    private static void everyByteBehindTheWord() {
        for (int b = 0; b < 256; b++) {
            String text = "people" + (char) b + "2;";
            if (b == ' ' || b == '0') {
                fine(text, 2);
            } else if (b >= '0' && b <= '9') {
                fault(text, 2, 6);
            } else {
                fault(text, 1, b >= 'a' && b <= 'z' ? 0 : 6);
            }
        }
    }

    private static void everyByteBehindTheNumber() {
        for (int b = 0; b < 256; b++) {
            String text = "people 2" + (char) b;
            if (b == ';') {
                fine(text, 2);
            } else if (b >= '0' && b <= '9') {
                fault(text, 2, 7);
            } else {
                fault(text, 1, b == ' ' ? 9 : 8);
            }
        }
    }

    private static void everyByteBehindTheClause() {
        for (int b = 0; b < 256; b++) {
            String text = "people 2;" + (char) b;
            if (b == ' ') {
                fine(text, 2);
            } else {
                fault(text, 1, 9);
            }
        }
    }

    // ---- P3: "THE TEXT (it is empty then) becomes THE TOWN (no BOOK; IMAGES are gone; THE SEED stays): how
    // many PERSONS; -10 less the number of its FAULT (all is as it was)."

    private static void theTextIsEmptyThen() {
        UnlikeCounts x = new UnlikeCounts();
        Due.townOf(x, "people 2;");
        due("behind a town", x.told(9), 0);
        Due.townOf(x, "people 0;");
        due("behind a fault", x.told(9), 0);
        due("the next text begins anew", Due.townOf(x, "people 3;"), 3);
        x.town();
        due("behind an empty text", x.told(9), 0);
    }

    private static UnlikeCounts lived() {
        UnlikeCounts x = new UnlikeCounts();
        Due.townOf(x, "people 3;friends 0 1;barred 0 2;must 1 2;cost 4 5;");
        x.seed(2147483647);
        x.tell(0, 7);
        x.keep(0);
        x.write(0, 1, false);
        x.write(1, 2, true);
        return x;
    }

    private static void noBookNoImagesTheSeedStays() {
        String[] texts = {"people 3;", "people 8;", "", "  "};
        for (String text : texts) {
            UnlikeCounts x = lived();
            x.keep(1);
            Due.townOf(x, text);
            due("days", x.told(10), 0);
            due("tear()", x.tear(), 0);
            due("judge(0)", x.judge(0), NONE);
            due("goBack(0)", x.goBack(0), NOT);
            due("goBack(1)", x.goBack(1), NOT);
            due("seed(0)", x.seed(0), 2147483647);
            due("no friends, no bars", x.told(2) + x.told(3) + x.told(4), 0);
            due("keep(0)", x.keep(0), 1);
            due("goBack(0)", x.goBack(0), 1);
            due("goBack(1)", x.goBack(1), NOT);
        }
    }

    private static void withAFaultAllIsAsItWas() {
        String[] texts = {"oh", "people 0;", "people 8;people 8;", "people 8;must 0 1;must 1 0;", "people 8;cost 9 9;oh"};
        for (String text : texts) {
            UnlikeCounts x = lived();
            due("a fault in " + text, Due.townOf(x, text) < -10 ? 1 : 0, 1);
            int[] want = {3, 2, 5, 2, 4, 4, 5, 1, 1, 0, 2};
            for (int what = 0; what < want.length; what++) {
                due("told(" + what + ")", x.told(what), want[what]);
            }
            due("count told", x.tell(0, 7), 7);
            due("judge(0)", x.judge(0), NONE);
            due("goBack(1)", x.goBack(1), NOT);
            due("seed(1)", x.seed(1), 2147483647);
            due("goBack(0)", x.goBack(0), 1);
            due("seed(1) of the image", x.seed(1), 2147483647);
        }
    }

    // ---- P4: "The byte of the FAULT of the latest town(); NONE."

    private static void faultOfTheLatest() {
        UnlikeCounts x = new UnlikeCounts();
        due("no town() yet", x.fault(), NONE);
        Due.feedAll(x, "oh");
        due("fed, no town() yet", x.fault(), NONE);
        x.town();
        due("at byte 0", x.fault(), 0);
        Due.feedAll(x, "people 0;");
        due("fed: of the latest", x.fault(), 0);
        x.birth();
        x.keep(0);
        x.goBack(0);
        x.feed(9, 0);
        due("other calls leave it", x.fault(), 0);
        x.town();
        due("another fault", x.fault(), 7);
        Due.townOf(x, "people 2;");
        due("no fault", x.fault(), NONE);
        Due.townOf(x, "people 2");
        due("at the end", x.fault(), 8);
        x.town();
        due("an empty text has none", x.fault(), NONE);
    }
}
