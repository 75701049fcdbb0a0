/** Part 4 of the document (seen, ends, wires, most, patches, nights, kept), sentence by sentence at the edges. */
public final class SightEdgesTest {
    private static final int BAD = -1, NO = -2, FULL = -3, NONE = -4;
    private static final int ALL = (1 << 21) - 1;

    private SightEdgesTest() {
    }

    public static void main(String[] args) {
        eightSeen();
        forgetAnyNumber();
        bearsFromZeroToTwenty();
        bearsAsItWas();
        bearsAllThatIsSeen();
        bearsByWhatHeSets();
        lookAtTheLeastOfSeveral();
        lookFromZeroToTwenty();
        lookOfOneAndNone();
        lookOfLazyOnes();
        whoSets();
        endsAtOnce();
        endsBehindComings();
        endsOfOne();
        endsOfAllPairs();
        wireOfNoNights();
        wireInLowestTerms();
        wireNoFartherThan();
        mostOfSeveral();
        mostOfNobody();
        patchesAtItsEdges();
        nightsByDraws();
        nightsCountAll();
        nightsInPlaceOfTurns();
        twoKept();
        backAsKeptLast();
        nothingUndoneThen();
        counts();
        Due.close();
    }

    // SEEN (8 at most)
    private static void eightSeen() {
        CrookedFrames x = new CrookedFrames();
        for (int n = 1; n <= 8; n++) {
            Due.is("seen, " + n, x.seen(20 + n, 20 + n), n);
            Due.is("seen so far", x.count(4), n);
            Due.is("bears " + n + " at least", x.bears(0), ALL - ((1 << n) - 1));
        }
        Due.is("seen, 9", x.seen(40, 40), FULL);
        Due.is("not seen", x.bears(0), ALL - 255);
        Due.is("eight", x.count(4), 8);
        Due.is("seen, 9, no angle", x.seen(41, 40), BAD);
        CrookedFrames edges = new CrookedFrames();
        Due.is("20 below to 20", edges.seen(0, 40), 1);
        Due.is("20 to 20 below", edges.seen(40, 0), 2);
        Due.is("below 20 below", edges.seen(-1, 0), BAD);
        Due.is("above 20", edges.seen(0, 41), BAD);
        Due.is("two", edges.count(4), 2);
    }

    // Nothing is SEEN: how many were.
    private static void forgetAnyNumber() {
        for (int size = 0; size <= 9; size++) {
            CrookedFrames x = new CrookedFrames();
            for (int n = 0; n < size; n++) {
                x.seen(40, 40);
            }
            Due.is("forget of " + size, x.forget(), Math.min(size, 8));
            Due.is("none", x.count(4), 0);
            Due.is("all may be", x.bears(0), ALL);
            Due.is("forget of none", x.forget(), 0);
            Due.is("room again", x.seen(40, 40), 1);
        }
    }

    // all B of 0 to 20 .. as bits
    private static void bearsFromZeroToTwenty() {
        CrookedFrames x = new CrookedFrames();
        for (int kind = 0; kind < 4; kind++) {
            Due.is("nothing seen: all of 0 to 20", x.bears(kind), ALL);
        }
        x.seen(21, 20);
        Due.is("0 alone: level", x.bears(0), 1);
        Due.is("0 alone: half", x.bears(1), 1);
        Due.is("0 alone: over", x.bears(2), 1);
        Due.is("0 alone: lazy", x.bears(3), 1);
        x.forget();
        x.seen(0, 0);
        Due.is("20 alone: level", x.bears(0), 1 << 20);
        Due.is("20 alone: half", x.bears(1), 1 << 20);
        Due.is("20 alone: over", x.bears(2), 1 << 20);
        Due.is("10 to 20: lazy", x.bears(3), ALL - 1023);
    }

    // as it was: he bears it
    private static void bearsAsItWas() {
        for (int a = 0; a <= 40; a++) {
            int far = Math.abs(a - 20);
            CrookedFrames x = new CrookedFrames();
            x.seen(a, a);
            for (int kind = 0; kind < 3; kind++) {
                Due.is("bears " + far, x.bears(kind), ALL & -(1 << far));
            }
            Due.is("lazy, bears " + far, x.bears(3), ALL & -(1 << (far + 1) / 2));
        }
    }

    private static void bearsAllThatIsSeen() {
        CrookedFrames x = new CrookedFrames();
        for (int least = 1; least <= 4; least++) {
            x.seen(20 + least, 20 + least);
            x.seen(20 - least - 10, 20);
            // Of least to 10 + least, by the nearest that was not borne: 10.
            Due.is("between", x.bears(0), ALL & -(1 << least) & ((1 << 11) - 1));
        }
        x.forget();
        x.seen(25, 25);
        x.seen(25, 20);
        Due.is("both ways: none", x.bears(0), 0);
    }

    private static void bearsByWhatHeSets() {
        CrookedFrames x = new CrookedFrames();
        // 20 to 10 above: half; lazy 10 bears 20.
        x.seen(40, 30);
        Due.is("20 to 10: level", x.bears(0), 0);
        Due.is("20 to 10: half", x.bears(1), (1 << 20) - 1);
        Due.is("20 to 10: over", x.bears(2), 0);
        Due.is("20 to 10: lazy", x.bears(3), 0);
        x.forget();
        x.seen(40, 29);
        Due.is("20 to 9: lazy", x.bears(3), 1 << 9);
        Due.is("20 to 9: half", x.bears(1), 0);
        x.forget();
        x.seen(0, 30);
        Due.is("20 below to 10: over", x.bears(2), (1 << 20) - 1);
        x.forget();
        x.seen(19, 20);
        Due.is("1 below to 0: over", x.bears(2), 1);
        x.forget();
        x.seen(21, 19);
        for (int kind = 0; kind < 4; kind++) {
            Due.is("1 to 1 below: none", x.bears(kind), 0);
        }
    }

    // of several the least: it; how many
    private static void lookAtTheLeastOfSeveral() {
        CrookedFrames x = new CrookedFrames();
        // Of 0 to 20 at 10 eleven bear it and ten do not; at 11 ten and eleven.
        for (int kind = 0; kind < 3; kind++) {
            Due.is("of all", x.look(kind, 0), 10);
            Due.is("of all, how many", x.look(kind, 1), 11);
        }
        x.seen(30, 20);
        // Of 0 to 9 five at 5.
        Due.is("of ten", x.look(0, 0), 5);
        Due.is("of ten, how many", x.look(0, 1), 5);
        x.seen(29, 20);
        // Of 0 to 8 at 4 five bear it, at 5 four do.
        Due.is("of nine", x.look(0, 0), 4);
        Due.is("of nine, how many", x.look(0, 1), 5);
    }

    // the ANGLE (0 to 20)
    private static void lookFromZeroToTwenty() {
        CrookedFrames x = new CrookedFrames();
        x.seen(39, 39);
        Due.is("19 or 20: at 20", x.look(0, 0), 20);
        Due.is("19 or 20: one", x.look(0, 1), 1);
        x.seen(40, 40);
        Due.is("20: at 0", x.look(0, 0), 0);
        Due.is("20: one", x.look(0, 1), 1);
        x.forget();
        x.seen(22, 20);
        Due.is("half of 2 is 1: no B", x.look(1, 0), NONE);
        Due.is("0 or 1: at 1", x.look(0, 0), 1);
        x.forget();
        // Lazy 10 to 20 bear all of 0 to 20: nothing tells them apart.
        x.seen(40, 40);
        Due.is("lazy, 10 to 20: at 0", x.look(3, 0), 0);
        Due.is("lazy, 10 to 20: all of them", x.look(3, 1), 11);
    }

    // none (no B)
    private static void lookOfOneAndNone() {
        CrookedFrames x = new CrookedFrames();
        x.seen(21, 20);
        for (int kind = 0; kind < 4; kind++) {
            Due.is("one B: at 0", x.look(kind, 0), 0);
            Due.is("one B: one", x.look(kind, 1), 1);
        }
        x.seen(21, 21);
        for (int kind = 0; kind < 4; kind++) {
            Due.is("no B", x.look(kind, 0), NONE);
            Due.is("no B", x.look(kind, 1), NONE);
            Due.is("no B", x.bears(kind), 0);
        }
        x.forget();
        Due.is("some B again", x.look(0, 0), 10);
    }

    // would do alike (set it to the same)
    private static void lookOfLazyOnes() {
        CrookedFrames x = new CrookedFrames();
        // At 19 those of 0 to 9 set it each to another angle, 11 bear it; at 20, too: the least is 19.
        Due.is("lazy, of all", x.look(3, 0), 19);
        Due.is("lazy, of all, how many", x.look(3, 1), 11);
        x.seen(35, 27);
        Due.is("lazy, 7 alone", x.bears(3), 1 << 7);
        Due.is("lazy, 7 alone: at 0", x.look(3, 0), 0);
        x.forget();
        x.seen(22, 22);
        x.seen(24, 24);
        // 2 to 20: at 20 those of 2 to 9 differ, 11 bear it; at 19 the same.
        Due.is("lazy, of 2 to 20", x.look(3, 0), 19);
        Due.is("lazy, of 2 to 20, how many", x.look(3, 1), 11);
    }

    // WHO: PERSONS (bits) who would set a FRAME at a to b (unlike a, b)
    private static void whoSets() {
        CrookedFrames x = Due.laid("f0,20;p0,19;p1,19;p2,19;p3,9;p3,10;");
        Due.is("20 to 0", x.who(40, 20), 1);
        Due.is("20 below to 0", x.who(0, 20), 1);
        Due.is("20 to 10", x.who(40, 30), 2);
        Due.is("20 to 10 below", x.who(40, 10), 4);
        Due.is("20 below to 10", x.who(0, 30), 4);
        Due.is("20 to 9", x.who(40, 29), 8);
        Due.is("20 below to 9 below", x.who(0, 11), 8);
        Due.is("20 to 9 below", x.who(40, 11), 0);
        Due.is("19 is borne", x.who(39, 20), 0);
        Due.is("19, lazy 9", x.who(39, 29), 8);
        Due.is("18 is borne by lazy 9", x.who(38, 29), 0);
        CrookedFrames all = Due.laid("f0,20;p0,0;p1,0;p2,0;p3,0;p0,0;");
        Due.is("1 to 0, all five", all.who(21, 20), 31);
        Due.is("0 to 1, nobody", all.who(20, 21), 0);
        Due.is("nobody there", Due.laid("f0,20;").who(40, 20), 0);
        // Who never comes would, too.
        Due.is("as BEARS and KIND are told", all.who(19, 20), 31);
    }

    // behind how many COMINGS it is there (0: at once)
    private static void endsAtOnce() {
        CrookedFrames x = Due.laid("f0,20;p0,20;p3,10;p1,0;p0,19;");
        int[] edges = {0, 40};
        for (int a : edges) {
            Due.is("both bear it", x.ends(0, 1, a, 0), a + 20);
            Due.is("both bear it: at once", x.ends(0, 1, a, 1), 0);
            Due.is("the first does not", x.ends(3, 1, a, 1), 1);
            Due.is("the second does not", x.ends(1, 3, a, 1), 2);
            Due.is("level then", x.ends(1, 3, a, 0), 40);
        }
        Due.is("level at once", x.ends(2, 2, 20, 0), 40);
        Due.is("level at once", x.ends(2, 2, 20, 1), 0);
    }

    private static void endsBehindComings() {
        CrookedFrames x = Due.laid("f0,20;p1,0;p2,0;p3,1;p1,19;p0,3;");
        // 20, 10, 10 below is 5 below: half and over by turns.
        Due.is("20, 10, 5 below, 2 below, 1, 0", x.ends(0, 1, 40, 1), 5);
        Due.is("0", x.ends(0, 1, 40, 0), 40);
        // 20, 10 below, 5 below, 2, 1, 0.
        Due.is("the other one first", x.ends(1, 0, 40, 1), 5);
        // One who bears 19 halves 20 once, then bears all; the lazy one sets it to 1 at his turn.
        Due.is("20, 10, 1", x.ends(3, 2, 40, 1), 2);
        Due.is("1", x.ends(3, 2, 40, 0), 41);
        Due.is("20, 1", x.ends(2, 3, 40, 1), 1);
        // Half of 0 alone, by every second coming: 20 10 10 5 5 2 2 1 1 0.
        CrookedFrames y = Due.laid("f0,20;p1,0;p0,20;");
        Due.is("every second coming", y.ends(0, 1, 40, 1), 9);
        Due.is("every second coming, the other one first", y.ends(1, 0, 40, 1), 10);
        Due.is("0", y.ends(1, 0, 0, 0), 40);
    }

    // i and j may be one
    private static void endsOfOne() {
        CrookedFrames x = Due.laid("f0,20;p2,1;p1,2;");
        Due.is("20, 10 below, 5, 2 below, 1", x.ends(0, 0, 40, 1), 4);
        Due.is("1", x.ends(0, 0, 40, 0), 41);
        Due.is("1 below, from below", x.ends(0, 0, 0, 0), 39);
        Due.is("20, 10, 5, 2", x.ends(1, 1, 40, 1), 3);
        Due.is("2", x.ends(1, 1, 40, 0), 42);
    }

    /** It never goes on for ever: whoever sets one right brings it nearer to level. */
    private static void endsOfAllPairs() {
        for (int first = 0; first < 84; first++) {
            for (int second = 0; second < 84; second++) {
                CrookedFrames x = Due.laid("f0,20;p" + first / 21 + "," + first % 21 + ";p" + second / 21 + ","
                        + second % 21 + ";");
                for (int a = 0; a <= 40; a += 5) {
                    int angle = x.ends(0, 1, a, 0) - 40;
                    int far = Math.abs(angle);
                    boolean bothBear = far <= limit(first) && far <= limit(second);
                    Due.is("both bear the end", bothBear && far <= Math.abs(a - 20) ? 1 : 0, 1);
                    int comings = x.ends(0, 1, a, 1);
                    Due.is("ten comings at most", comings >= 0 && comings <= 10 ? 1 : comings, 1);
                    Due.is("at once if it stays", comings == 0 ? a - 20 : angle, angle);
                }
            }
        }
    }

    private static int limit(int person) {
        return person / 21 == 3 ? 2 * (person % 21) : person % 21;
    }

    // behind n (0 to 6) nights
    private static void wireOfNoNights() {
        CrookedFrames x = new CrookedFrames();
        for (int a = 0; a <= 40; a++) {
            int far = Math.abs(a - 20);
            Due.is("just within", x.wire(a, far, 0, 5, 5, 0), 1);
            Due.is("just within, below", x.wire(a, far, 0, 5, 5, 1), 1);
            if (far > 0) {
                Due.is("just beyond", x.wire(a, far - 1, 0, 5, 5, 0), 0);
                Due.is("just beyond, below", x.wire(a, far - 1, 0, 5, 5, 1), 1);
            }
        }
        Due.is("7 nights", x.wire(20, 0, 7, 0, 0, 0), BAD);
        Due.is("6 nights", x.wire(20, 0, 6, 0, 0, 0), 1);
        Due.is("-1 nights", x.wire(20, 0, -1, 0, 0, 0), BAD);
    }

    // the chance .. in lowest terms
    private static void wireInLowestTerms() {
        CrookedFrames x = new CrookedFrames();
        int[][] one = {{0, 0, 1}, {1, 1, 10}, {2, 1, 5}, {3, 3, 10}, {4, 2, 5}, {5, 1, 2}, {6, 3, 5}, {7, 7, 10},
            {8, 4, 5}, {9, 9, 10}, {10, 1, 1}};
        for (int[] w : one) {
            Due.is(w[0] + " of ten upwards", x.wire(19, 0, 1, w[0], 0, 0), w[1]);
            Due.is(w[0] + " of ten upwards, below", x.wire(19, 0, 1, w[0], 0, 1), w[2]);
            Due.is(w[0] + " of ten downwards", x.wire(21, 0, 1, 0, w[0], 0), w[1]);
            Due.is(w[0] + " of ten downwards, below", x.wire(21, 0, 1, 0, w[0], 1), w[2]);
        }
        Due.is("one of a million", x.wire(26, 0, 6, 0, 1, 1), 1000000);
        Due.is("one of a million, above", x.wire(26, 0, 6, 0, 1, 0), 1);
        Due.is("9 of ten, six times", x.wire(14, 0, 6, 9, 1, 0), 531441);
        Due.is("9 of ten, six times, below", x.wire(14, 0, 6, 9, 1, 1), 1000000);
        Due.is("never", x.wire(27, 0, 6, 5, 5, 0), 0);
        Due.is("never, below", x.wire(27, 0, 6, 5, 5, 1), 1);
        Due.is("always", x.wire(26, 12, 6, 5, 5, 0), 1);
        Due.is("always, below", x.wire(26, 12, 6, 5, 5, 1), 1);
        // 3 up, 3 down, 4 stays: level behind two nights by 4 4, 3 3, 3 3 of a hundred: 34.
        Due.is("stays or comes back", x.wire(20, 0, 2, 3, 3, 0), 17);
        Due.is("stays or comes back, below", x.wire(20, 0, 2, 3, 3, 1), 50);
        Due.is("stays for six nights", x.wire(40, 20, 6, 3, 0, 0), 117649);
        Due.is("stays for six nights, below", x.wire(40, 20, 6, 3, 0, 1), 1000000);
        Due.is("half and half, six nights", x.wire(20, 0, 6, 5, 5, 0), 5);
        Due.is("half and half, six nights, below", x.wire(20, 0, 6, 5, 5, 1), 16);
    }

    // no farther from level than l (0 to 20)
    private static void wireNoFartherThan() {
        CrookedFrames x = new CrookedFrames();
        // 21 is beyond 20: an angle may go on to 40.
        Due.is("20, up", x.wire(40, 20, 1, 10, 0, 0), 0);
        Due.is("20, down", x.wire(40, 20, 1, 0, 10, 0), 1);
        Due.is("20 below, up", x.wire(0, 20, 1, 10, 0, 0), 1);
        Due.is("20 below, down", x.wire(0, 20, 1, 0, 10, 0), 0);
        Due.is("6 up to 6", x.wire(20, 6, 6, 10, 0, 0), 1);
        Due.is("6 up, 5", x.wire(20, 5, 6, 10, 0, 0), 0);
        Due.is("6 down to 6", x.wire(20, 6, 6, 0, 10, 0), 1);
        Due.is("6 down, 5", x.wire(20, 5, 6, 0, 10, 0), 0);
        Due.is("of four ways up, up alone is beyond", x.wire(40, 20, 2, 5, 5, 0), 3);
        Due.is("there and back, below", x.wire(40, 20, 2, 5, 5, 1), 4);
        Due.is("l 21", x.wire(40, 21, 0, 0, 0, 0), BAD);
        Due.is("a 41", x.wire(41, 20, 0, 0, 0, 0), BAD);
    }

    // on most DAYS of 0 to 30, of several the lowest
    private static void mostOfSeveral() {
        for (int first = 0; first < 5; first++) {
            // From this one on all come, to a frame for each: they are hers on day 0 alone.
            StringBuilder text = new StringBuilder("f0,40;".repeat(5 - first) + "p0,0;p0,0;p0,0;p0,0;p0,0;");
            for (int i = 4; i >= first; i--) {
                text.append("w").append(i).append(",0,0;");
            }
            CrookedFrames x = Due.laid(text.toString());
            Due.is("all of them on day 0", x.hers(0), 31 & -(1 << first));
            Due.is("the lowest of several", x.most(0), first);
            Due.is("on one day", x.most(1), 1);
        }
        CrookedFrames daily = Due.laid("f0,20;t0,6;p0,20;p0,0;w1,0,0;");
        Due.is("on all days", daily.most(0), 1);
        Due.is("on all days: 31", daily.most(1), 31);
        CrookedFrames last = Due.laid("f0,20;n30,0,21;p0,0;p0,0;w1,0,0;");
        Due.is("on day 30 alone", last.most(0), 1);
        Due.is("on day 30 alone: 1", last.most(1), 1);
        CrookedFrames first = Due.laid("f0,40;p0,0;p0,0;w1,0,0;");
        Due.is("on day 0 alone", first.most(0), 1);
        Due.is("on day 0 alone: 1", first.most(1), 1);
    }

    // none (nobody there)
    private static void mostOfNobody() {
        CrookedFrames nobody = Due.laid("f0,40;");
        Due.is("nobody there", nobody.most(0), NONE);
        Due.is("nobody there", nobody.most(1), NONE);
        CrookedFrames never = Due.laid("f0,40;p0,0;p0,0;");
        Due.is("there, but never hers", never.most(0), 0);
        Due.is("there, but never hers", never.most(1), 0);
    }

    // PATCHES: how many FRAMES are at the end of a DAY as they were meant to be.
    private static void patchesAtItsEdges() {
        for (int frames = 0; frames <= 7; frames++) {
            StringBuilder text = new StringBuilder("f0,21;".repeat(7));
            for (int k = 0; k < frames; k++) {
                text.append("c").append(k).append(",21;");
            }
            Due.is("patches of " + frames, Due.laid(text.toString()).patches(0), frames);
        }
        // 20 without: as meant when level.
        Due.is("without patches", Due.laid("f0,20;f0,21;").patches(30), 1);
        Due.is("at the end, not in the morning", Due.laid("f0,30;c0,30;p0,0;w0,0,0;").patches(0), 0);
        Due.is("not as told, but twisted", Due.laid("f0,20;t0,6;c0,21;").patches(0), 1);
        Due.is("20 below", Due.laid("f0,0;c0,0;").patches(30), 1);
        Due.is("20 above", Due.laid("f0,40;c0,40;").patches(30), 1);
        CrookedFrames last = Due.laid("f0,20;n30,0,21;c0,21;");
        Due.is("day 29", last.patches(29), 0);
        Due.is("day 30", last.patches(30), 1);
    }

    private static int draw(int z, int d) {
        long q = 7919L * z + 6151L * d + 1;
        return (int) (q * q % 65521);
    }

    // A NIGHT by z (0 to 9999)
    private static void nightsByDraws() {
        int[] edges = {0, 1, 9998, 9999};
        for (int frames = 1; frames <= 7; frames++) {
            CrookedFrames x = Due.laid("f0,20;".repeat(frames));
            for (int z : edges) {
                int at = 0;
                for (int d = 0; d <= 30; d++) {
                    if (draw(z, d) % frames == 0) {
                        at = Math.max(-40, Math.min(40, at + draw(z, d) / 8 % 41 - 20));
                    }
                }
                Due.is("night(" + z + ", 1) of " + frames, x.night(z, 1), at + 40);
                Due.is("night(" + z + ", 0) of " + frames, x.night(z, 0), 0);
            }
            Due.is("night(10000, 1)", x.night(10000, 1), BAD);
            Due.is("night(-1, 1)", x.night(-1, 1), BAD);
        }
    }

    // how often anybody is HERS on DAYS 0 to 30 together
    private static void nightsCountAll() {
        // Whatever is drawn, each wire brings each frame beyond 0 anew: day by day each of them is hers,
        // but on a day on which the draw turns it level again.
        for (int z = 0; z < 10; z++) {
            int often = 0;
            for (int d = 0; d <= 30; d++) {
                for (int k = 0; k < 4; k++) {
                    boolean level = draw(z, d) % 4 == k && draw(z, d) / 8 % 41 - 20 == -5;
                    often += level ? 0 : 1;
                }
            }
            CrookedFrames x = Due.laid("f0,20;f1,20;f2,20;f3,20;t0,10;t1,10;t2,10;t3,10;p0,0;p0,0;p0,0;p0,0;"
                    + "w0,0,0;w1,1,1;w2,2,2;w3,3,3;");
            Due.is("night(" + z + ", 0)", x.night(z, 0), often);
            Due.is("nearly each on each day", often >= 120 ? 1 : often, 1);
            Due.is("set right in the end", x.night(z, 1), 40);
        }
    }

    // behind wires, in place of TURNS
    private static void nightsInPlaceOfTurns() {
        CrookedFrames x = Due.laid("f0,33;f1,7;t0,3;t1,9;p1,2;w0,4,0;w0,5,1;");
        int often = x.night(4321, 0);
        int last = x.night(4321, 1);
        for (int n = 0; n < 8; n++) {
            x.turn(4 * n, n % 2, 5 * n);
        }
        Due.is("told turns play no part", x.night(4321, 0), often);
        Due.is("told turns play no part", x.night(4321, 1), last);
        // Behind wires: at 40 each night before it is turned, so 20 to 40 each day, by the draw alone.
        CrookedFrames y = Due.laid("f0,40;t0,10;");
        int at = 20;
        for (int d = 0; d <= 30; d++) {
            at = Math.min(40, at + 5);
            at = Math.max(-40, Math.min(40, at + draw(9999, d) / 8 % 41 - 20));
        }
        Due.is("behind wires", y.night(9999, 1), at + 40);
    }

    // KEPT are TURNS: 2 at most.
    private static void twoKept() {
        CrookedFrames x = Due.laid("f0,20;");
        Due.is("none are kept", x.count(6), 0);
        Due.is("keep of no turns", x.keep(), 1);
        x.turn(1, 0, 1);
        Due.is("keep of one", x.keep(), 2);
        x.turn(2, 0, 2);
        Due.is("keep, a third", x.keep(), FULL);
        Due.is("two are kept", x.count(6), 2);
        Due.is("and two are told", x.count(3), 2);
        Due.is("back", x.back(), 1);
        Due.is("room again", x.keep(), 2);
        Due.is("full again", x.keep(), FULL);
    }

    // As KEPT last: how many are left. NO.
    private static void backAsKeptLast() {
        CrookedFrames x = Due.laid("f0,20;" + "n0,0,20;".repeat(7) + "n30,0,40;");
        Due.is("nothing kept", x.back(), NO);
        x.keep();
        for (int n = 0; n < 8; n++) {
            x.leave(0);
        }
        x.keep();
        x.turn(3, 0, 33);
        Due.is("the last one", x.back(), 1);
        Due.is("no turns", x.count(3), 0);
        Due.is("one ahead of it", x.back(), 0);
        Due.is("eight turns", x.count(3), 8);
        Due.is("the eighth one", x.told(7, 2), 40);
        Due.is("the first one", x.told(0, 2), 20);
        Due.is("no more", x.back(), NO);
        Due.is("eight turns still", x.count(3), 8);
        // What is kept does not change with what is told then.
        CrookedFrames y = Due.laid("f0,20;n1,0,21;");
        y.keep();
        y.turn(2, 0, 22);
        y.leave(0);
        y.undo();
        y.undo();
        y.leave(0);
        Due.is("back", y.back(), 0);
        Due.is("as kept", y.count(3), 1);
        Due.is("as kept", y.told(0, 2), 21);
    }

    // nothing is UNDONE then
    private static void nothingUndoneThen() {
        CrookedFrames x = Due.laid("f0,20;");
        x.keep();
        for (int n = 0; n < 8; n++) {
            x.turn(n, 0, n);
        }
        Due.is("eight can be", x.count(5), 8);
        Due.is("back", x.back(), 0);
        Due.is("none can be", x.count(5), 0);
        Due.is("none is", x.undo(), NO);
        Due.is("no turns", x.count(3), 0);
        x.turn(1, 0, 1);
        Due.is("back of none is refused", x.back(), NO);
        Due.is("one still can be", x.count(5), 1);
        Due.is("and is", x.undo(), 0);
        // Keeping leaves what can be undone.
        x.turn(1, 0, 1);
        x.keep();
        Due.is("kept: one can be", x.count(5), 1);
        Due.is("kept: one is undone", x.undo(), 0);
        Due.is("kept still", x.count(6), 1);
    }

    // How many: 0 FRAMES .. 7 letters of THE TEXT.
    private static void counts() {
        CrookedFrames full = Due.laid("f0,1;f0,2;f0,3;f0,4;f0,5;f0,6;f0,7;" + "p0,0;".repeat(5) + "w0,0,0;".repeat(10)
                + "n0,0,0;".repeat(8));
        full.keep();
        full.keep();
        for (int n = 0; n < 8; n++) {
            full.seen(n, n);
            full.leave(0);
        }
        for (int n = 0; n < 8; n++) {
            full.turn(0, 0, n);
        }
        Due.write(full, "xxxxxxxxxxxxxxxxxx");
        int[] most = {7, 5, 10, 8, 8, 8, 2, 200};
        CrookedFrames bare = Due.laid("f0,0;");
        bare.wipe();
        int[] least = {1, 0, 0, 0, 0, 0, 0, 0};
        for (int what = 0; what < 8; what++) {
            Due.is("count(" + what + "), full", full.count(what), most[what]);
            Due.is("count(" + what + "), bare", bare.count(what), least[what]);
        }
        Due.is("count(8)", full.count(8), BAD);
        Due.is("count(-1)", full.count(-1), BAD);
    }
}
