/** What the document says of texts (part 1, LAID, promises 1 to 7), sentence by sentence at its edges. */
public final class TextEdgesTest {
    private static final int BAD = -1, NO = -2, FULL = -3, NONE = -4;
    private static final String FIRST = "f0,23;f0,20;f1,15;f1,26;t0,6;t3,4;p0,2;p1,1;p2,3;"
            + "w0,8,0;w1,9,0;w1,10,1;w2,8,1;n1,1,24;n2,2,18;c2,16;";
    /** What is told ahead, the letter, and the most of each number. */
    private static final String[] AHEAD = {"", "f0,0;f0,0;", "", "p0,0;p0,0;p0,0;", "f0,0;f0,0;f0,0;f0,0;",
        "f0,0;".repeat(7)};
    private static final String[] LETTER = {"f", "t", "p", "w", "n", "c"};
    private static final int[][] MOST = {{3, 40}, {1, 10}, {3, 20}, {2, 23, 3}, {30, 3, 40}, {6, 40}};

    private TextEdgesTest() {
    }

    public static void main(String[] args) {
        lettersFrom32To126();
        textsOf200Letters();
        wipedAtAnyLength();
        itemsCutAnywhere();
        numbersFromWhereToWhere();
        oneOrTwoFigures();
        signsBetween();
        lettersOfItems();
        howManyNumbers();
        sevenFrames();
        fivePersons();
        tenComings();
        eightTurns();
        wiresAndPatchesWithoutEnd();
        framesToldAhead();
        personsToldAhead();
        theLastOneOfEach();
        withoutWireOrPatch();
        lessTwenty();
        theFirstFaultOfSeveral();
        laidAtFirst();
        laidNeedsAFrame();
        laidOfOneAndSeven();
        laidForgetsAll();
        laidLeavesTheText();
        Due.close();
    }

    private static void faultIs(String text, int want) {
        Due.is("fault() of " + text, Due.written(text).fault(), want);
    }

    private static String item(String letter, String... numbers) {
        return letter + String.join(",", numbers) + ";";
    }

    private static String[] zeros(int size) {
        String[] all = new String[size];
        java.util.Arrays.fill(all, "0");
        return all;
    }

    // A letter (32 to 126, as in ASCII): BAD.
    private static void lettersFrom32To126() {
        for (int letter = -300; letter <= 700; letter++) {
            CrookedFrames x = new CrookedFrames();
            boolean is = letter >= 32 && letter <= 126;
            Due.is("write(" + letter + ")", x.write(letter), is ? 1 : BAD);
            Due.is("letters behind write(" + letter + ")", x.count(7), is ? 1 : 0);
        }
        int[] far = {Integer.MIN_VALUE, Integer.MIN_VALUE + 'f', Integer.MAX_VALUE, 65536 + 'f', -1 - 'f'};
        for (int letter : far) {
            CrookedFrames x = new CrookedFrames();
            Due.is("write(" + letter + ")", x.write(letter), BAD);
            Due.is("letters behind write(" + letter + ")", x.count(7), 0);
        }
    }

    // A TEXT is letters (200 at most): FULL.
    private static void textsOf200Letters() {
        String full = "f0,1;" + "c0,0;".repeat(38) + "c0,7;";
        CrookedFrames x = new CrookedFrames();
        for (int n = 0; n < 200; n++) {
            Due.is("write, letter " + (n + 1), x.write(full.charAt(n)), n + 1);
        }
        Due.is("write, letter 201", x.write('x'), FULL);
        Due.is("write, letter 201 again", x.write(';'), FULL);
        Due.is("write of none when full", x.write(127), BAD);
        Due.is("write of none when full", x.write(31), BAD);
        Due.is("200 letters", x.count(7), 200);
        Due.is("a full text has no fault", x.fault(), NONE);
        Due.is("a full text is laid", x.lay(), 1);
        Due.is("its last item was read", x.frame(0, 3), 27);
        Due.is("wipe of 200", x.wipe(), 200);
        Due.is("room again", x.write('f'), 1);
        // The last letter has no room: the item is cut.
        faultIs("f0,10;" + "c0,0;".repeat(38) + "c0,7;", 196);
        CrookedFrames short1 = Due.written("f0,1;" + "c0,0;".repeat(38) + "c0,7");
        Due.is("199 letters", short1.fault(), 195);
        Due.is("letter 200", short1.write(';'), 200);
        Due.is("200 letters", short1.fault(), NONE);
    }

    // THE TEXT is empty: how long it was.
    private static void wipedAtAnyLength() {
        int[] lengths = {0, 1, 2, 199, 200};
        for (int length : lengths) {
            CrookedFrames x = Due.written("f".repeat(length));
            Due.is("wipe of " + length, x.wipe(), length);
            Due.is("empty", x.count(7), 0);
            Due.is("an empty text has no fault", x.fault(), NONE);
            Due.is("an empty text is not laid", x.lay(), NO);
            Due.is("wipe of none", x.wipe(), 0);
        }
    }

    // FAULT: the place of the first letter of the first ITEM that is not so. NONE.
    private static void itemsCutAnywhere() {
        String[] texts = {FIRST, "p3,20;w00,23,3;f00,40;t0,010;", "f3,0;f2,40;c1,40;n30,1,40;n00,00,00;t1,10;"};
        for (String text : texts) {
            CrookedFrames x = new CrookedFrames();
            int item = 0;
            boolean wrong = false;
            Due.is("fault() of none", x.fault(), NONE);
            for (int n = 0; n < text.length(); n++) {
                x.write(text.charAt(n));
                if (text.charAt(n) == ';') {
                    wrong |= text.startsWith("t0,010", item);
                    item = wrong ? item : n + 1;
                }
                boolean whole = item == n + 1;
                Due.is("fault() of " + text.substring(0, n + 1), x.fault(), whole ? NONE : item);
            }
        }
    }

    // R 0 to 3, A 0 to 40, K told ahead, D 0 to 10, K 0 to 3, B 0 to 20, H 0 to 23, N 0 to 30 ..
    private static void numbersFromWhereToWhere() {
        for (int row = 0; row < LETTER.length; row++) {
            for (int at = 0; at < MOST[row].length; at++) {
                for (int number = 0; number <= 99; number++) {
                    String[] numbers = zeros(MOST[row].length);
                    numbers[at] = "" + number;
                    boolean is = number <= MOST[row][at];
                    int place = AHEAD[row].length();
                    String text = AHEAD[row] + item(LETTER[row], numbers);
                    faultIs(text, is ? NONE : place);
                    faultIs(text + "f0,0", is ? text.length() : place);
                }
            }
        }
    }

    // numbers (one or two figures)
    private static void oneOrTwoFigures() {
        String[] right = {"0", "1", "00", "01"};
        String[] wrong = {"", "000", "001", "100", "-1", "-0", "+1", " 1", "1 ", "a", "1a", "a1", "/", ":", "0/",
            "0:", "1.0", "0x1"};
        for (int row = 0; row < LETTER.length; row++) {
            for (int at = 0; at < MOST[row].length; at++) {
                String[] numbers = zeros(MOST[row].length);
                for (String number : right) {
                    numbers[at] = number;
                    faultIs(AHEAD[row] + item(LETTER[row], numbers), NONE);
                }
                for (String number : wrong) {
                    numbers[at] = number;
                    faultIs(AHEAD[row] + item(LETTER[row], numbers), AHEAD[row].length());
                }
            }
        }
        CrookedFrames x = Due.laid("f03,07;f1,30;p01,09;t00,09;c01,02;");
        Due.is("a figure 0 ahead", x.frame(0, 0), 3);
        Due.is("a figure 0 ahead", x.frame(0, 1), 27);
        Due.is("a figure 0 behind", x.frame(1, 1), 50);
        Due.is("a figure 0 ahead", x.person(0, 1), 9);
        Due.is("a figure 0 ahead", x.frame(0, 2), 9);
        Due.is("a figure 0 ahead", x.frame(1, 3), 22);
    }

    // parted by , and a ; behind the last one
    private static void signsBetween() {
        for (int row = 0; row < LETTER.length; row++) {
            String right = item(LETTER[row], zeros(MOST[row].length));
            for (int at = 0; at < right.length(); at++) {
                char sign = right.charAt(at);
                if (sign == ',' || sign == ';') {
                    for (char other = 32; other < 127; other++) {
                        String text = AHEAD[row] + right.substring(0, at) + other + right.substring(at + 1);
                        // A figure in place of the last sign leaves the item open, too.
                        faultIs(text, other == sign ? NONE : AHEAD[row].length());
                    }
                    faultIs(AHEAD[row] + right.substring(0, at) + right.substring(at + 1), AHEAD[row].length());
                    faultIs(AHEAD[row] + right.substring(0, at) + sign + right.substring(at),
                            AHEAD[row].length() + (sign == ';' ? right.length() : 0));
                }
            }
        }
    }

    // each a letter: f t p w n c
    private static void lettersOfItems() {
        for (char letter = 32; letter < 127; letter++) {
            boolean two = "ftpc".indexOf(letter) >= 0;
            boolean three = "wn".indexOf(letter) >= 0;
            faultIs("f0,0;p0,0;" + letter + "0,0;", two ? NONE : 10);
            faultIs("f0,0;p0,0;" + letter + "0,0,0;", three ? NONE : 10);
        }
    }

    private static void howManyNumbers() {
        for (int row = 0; row < LETTER.length; row++) {
            for (int size = 0; size <= 5; size++) {
                boolean is = size == MOST[row].length;
                faultIs(AHEAD[row] + item(LETTER[row], zeros(size)), is ? NONE : AHEAD[row].length());
            }
        }
    }

    /** The item as often as it may be, then once more; and once more behind other items. */
    private static void atMost(String ahead, String item, int most, String other, int what) {
        String full = ahead + item.repeat(most);
        faultIs(full, NONE);
        faultIs(full + item, full.length());
        faultIs(full + item + item, full.length());
        faultIs(full + other + item, full.length() + other.length());
        CrookedFrames x = Due.laid((ahead.startsWith("f") || item.startsWith("f") ? "" : "f0,0;") + full);
        Due.is("count(" + what + ") of " + full, x.count(what), most);
    }

    // 7 at most, 0, 1, ..
    private static void sevenFrames() {
        atMost("", "f1,2;", 7, "p0,0;", 0);
        CrookedFrames x = Due.laid("f0,1;f1,2;f2,3;f3,4;f0,5;f1,6;f2,7;");
        for (int k = 0; k < 7; k++) {
            Due.is("room of " + k, x.frame(k, 0), k % 4);
            Due.is("angle of " + k, x.frame(k, 1), 21 + k);
        }
    }

    // 5 at most, 0, 1, ..
    private static void fivePersons() {
        atMost("", "p1,2;", 5, "f0,0;", 1);
        CrookedFrames x = Due.laid("f0,0;p0,11;p1,12;p2,13;p3,14;p0,15;");
        for (int i = 0; i < 5; i++) {
            Due.is("kind of " + i, x.person(i, 0), i % 4);
            Due.is("bears of " + i, x.person(i, 1), 11 + i);
        }
    }

    // 10 at most
    private static void tenComings() {
        atMost("p0,0;", "w0,1,2;", 10, "f0,0;", 2);
        // The tenth one counts: he alone comes to where the frame is.
        CrookedFrames x = Due.laid("f0,40;p0,0;" + "w0,0,1;".repeat(9) + "w0,0,0;");
        Due.is("the tenth coming", x.hers(0), 1);
    }

    // 8 at most
    private static void eightTurns() {
        atMost("f0,0;", "n1,0,3;", 8, "p0,0;", 3);
        CrookedFrames x = Due.laid("f0,20;" + "n0,0,20;".repeat(7) + "n0,0,27;");
        Due.is("the eighth turn", x.angle(0, 0), 47);
    }

    // t and c: the last one of each; no bound is told for how many.
    private static void wiresAndPatchesWithoutEnd() {
        CrookedFrames x = Due.laid("f0,0;" + "t0,1;".repeat(19) + "c0,2;".repeat(18) + "t0,9;c0,8;");
        Due.is("the last wire", x.frame(0, 2), 9);
        Due.is("the last patch", x.frame(0, 3), 28);
    }

    // FRAME K (told ahead)
    private static void framesToldAhead() {
        String[] items = {"t%d,1;", "c%d,1;", "n1,%d,1;"};
        for (String form : items) {
            for (int frames = 0; frames <= 7; frames++) {
                String ahead = "f0,0;".repeat(frames);
                if (frames > 0) {
                    faultIs(ahead + String.format(form, 0), NONE);
                    faultIs(ahead + String.format(form, frames - 1), NONE);
                }
                String beyond = String.format(form, frames);
                faultIs(ahead + beyond, ahead.length());
                faultIs("p0,0;p0,0;" + ahead + beyond, 10 + ahead.length());
                // Told behind is too late.
                faultIs(ahead + beyond + "f0,0;", ahead.length());
            }
        }
    }

    // PERSON I (told ahead)
    private static void personsToldAhead() {
        for (int persons = 0; persons <= 5; persons++) {
            String ahead = "p0,0;".repeat(persons);
            if (persons > 0) {
                faultIs(ahead + "w0,0,0;", NONE);
                faultIs(ahead + "w" + (persons - 1) + ",0,0;", NONE);
            }
            faultIs(ahead + "w" + persons + ",0,0;", ahead.length());
            faultIs("f0,0;f0,0;" + ahead + "w" + persons + ",0,0;", 10 + ahead.length());
            faultIs(ahead + "w" + persons + ",0,0;p0,0;", ahead.length());
        }
    }

    // the last one of each
    private static void theLastOneOfEach() {
        CrookedFrames x = Due.laid("f0,20;f0,20;t0,10;t1,2;t0,0;t1,7;c0,40;c1,3;c0,0;c1,4;");
        int[][] want = {{0, 20}, {7, 24}};
        for (int k = 0; k < 2; k++) {
            Due.is("wire of " + k, x.frame(k, 2), want[k][0]);
            Due.is("patch of " + k, x.frame(k, 3), want[k][1]);
        }
        Due.is("twists by the last one alone", x.angle(0, 0), 35);
        Due.is("twists by the last one alone", x.angle(1, 0), 42);
    }

    // 5 without; 20 without
    private static void withoutWireOrPatch() {
        CrookedFrames x = Due.laid("f0,33;f0,7;t0,9;c0,9;");
        Due.is("no wire", x.frame(1, 2), 5);
        Due.is("no patch", x.frame(1, 3), 40);
        Due.is("stays", x.angle(1, 30), 27);
        x.wipe();
        Due.write(x, "f0,33;f0,7;");
        // Laid thrice: rows of an old house may be used again.
        for (int n = 0; n < 3; n++) {
            x.lay();
            Due.is("no wire any more", x.frame(0, 2), 5);
            Due.is("no patch any more", x.frame(0, 3), 40);
        }
    }

    // whose ANGLE is A less 20; D less 5; D less 20; meant to be at A less 20
    private static void lessTwenty() {
        for (int a = 0; a <= 40; a++) {
            CrookedFrames x = Due.laid("f0," + a + ";c0," + a + ";n1,0," + a + ";");
            Due.is("angle " + a, x.frame(0, 1), a + 20);
            Due.is("patch " + a, x.frame(0, 3), a + 20);
            Due.is("turn " + a, x.told(0, 2), a);
            Due.is("behind the turn " + a, x.angle(0, 1), a + 20 + a - 20);
            Due.is("as it was meant to be", x.patches(0), 1);
        }
        for (int d = 0; d <= 10; d++) {
            CrookedFrames x = Due.laid("f0,20;t0," + d + ";");
            Due.is("wire " + d, x.frame(0, 2), d);
            Due.is("twisted once", x.angle(0, 0), 40 + d - 5);
            Due.is("twisted twice", x.angle(0, 1), 40 + 2 * (d - 5));
        }
    }

    private static void theFirstFaultOfSeveral() {
        faultIs("f0,0;f4,0;f0,41;", 5);
        faultIs("f0,0;p4,0;x", 5);
        faultIs("f0,0;p0,0;x;p4,0;", 10);
        // An item that is not so tells nothing, but the first one is answered anyhow.
        faultIs("f4,0;t0,5;", 0);
        faultIs("f0,0;;f0,0;", 5);
        faultIs(";f0,0;", 0);
        faultIs(" f0,0;", 0);
        faultIs("f0,0; ", 5);
    }

    // Promise 1; at first f0,23; ..
    private static void laidAtFirst() {
        CrookedFrames x = Due.laid(FIRST);
        x.wipe();
        Due.same("a new object is as its text is laid", Watch.all(new CrookedFrames()), Watch.all(x));
        CrookedFrames y = new CrookedFrames();
        int[] want = {4, 3, 4, 2, 0, 0, 0, 0};
        for (int what = 0; what < 8; what++) {
            Due.is("count(" + what + ") at first", y.count(what), want[what]);
        }
        Due.is("no text at first", y.fault(), NONE);
        Due.is("no text at first to lay", y.lay(), NO);
        Due.is("nothing undone at first", y.undo(), NO);
        Due.is("nothing kept at first", y.back(), NO);
    }

    // LAID is a TEXT without FAULT, of a FRAME at least (NO else)
    private static void laidNeedsAFrame() {
        String[] texts = {"", "p0,0;", "p0,0;w0,0,0;", "f0,0", "f0,0;x", "f4,0;", "f0,0;".repeat(8), "t0,0;f0,0;", " "};
        for (String text : texts) {
            CrookedFrames x = Due.written(text);
            Due.is("lay() of " + text, x.lay(), NO);
            Due.same("nothing changed by " + text, Watch.all(x), Watch.all(Due.written(text)));
        }
    }

    private static void laidOfOneAndSeven() {
        for (int frames = 1; frames <= 7; frames++) {
            CrookedFrames x = Due.written("f0,0;".repeat(frames));
            Due.is("lay of " + frames, x.lay(), frames);
            Due.is("frames", x.count(0), frames);
            Due.is("the last frame", x.frame(frames - 1, 1), 20);
            Due.is("one beyond", x.frame(frames, 1), BAD);
            Due.is("nobody", x.count(1), 0);
            Due.is("no comings", x.count(2), 0);
            Due.is("no turns", x.count(3), 0);
        }
    }

    // nothing SEEN, UNDONE, KEPT
    private static void laidForgetsAll() {
        CrookedFrames x = Due.laid(FIRST);
        for (int n = 0; n < 8; n++) {
            x.seen(40, 40);
            x.turn(3, 0, 21);
        }
        x.keep();
        x.keep();
        Due.is("lay", x.lay(), 4);
        Due.same("as laid for the first time", Watch.all(x), Watch.all(Due.laid(FIRST)));
        CrookedFrames y = Due.laid(FIRST);
        y.seen(40, 40);
        y.leave(0);
        y.keep();
        y.lay();
        Due.is("nothing seen", y.count(4), 0);
        Due.is("nothing seen, so all", y.bears(0), (1 << 21) - 1);
        Due.is("nothing undone", y.undo(), NO);
        Due.is("nothing kept", y.back(), NO);
        Due.is("the turns of the text", y.count(3), 2);
    }

    private static void laidLeavesTheText() {
        CrookedFrames x = Due.laid("f0,0;");
        Due.is("the text stays", x.count(7), 5);
        Due.write(x, "f1,1;");
        Due.is("written, not laid", x.count(0), 1);
        Due.is("written, not laid: fault()", x.fault(), NONE);
        Due.is("still not laid", x.count(0), 1);
        Due.is("laid", x.lay(), 2);
        x.wipe();
        Due.is("the house stays", x.count(0), 2);
    }
}
