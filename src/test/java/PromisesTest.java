/** Each promise by hand: ordinary calls, the edges that the document names, wrong calls. */
public final class PromisesTest {
    private static final int BAD = -1, NO = -2, FULL = -3, NONE = -4;

    private PromisesTest() {
    }

    public static void main(String[] args) {
        newObject();
        write();
        wipe();
        fault();
        faultOfCounts();
        lay();
        frame();
        person();
        angle();
        kinds();
        hers();
        order();
        sets();
        rest();
        sways();
        told();
        turn();
        leave();
        undo();
        tempt();
        fewest();
        safe();
        hang();
        seen();
        forget();
        bears();
        look();
        who();
        ends();
        wire();
        most();
        patches();
        night();
        keep();
        back();
        count();
        Due.close();
    }

    private static void newObject() {
        CrookedFrames x = new CrookedFrames();
        counts(x, "new", 4, 3, 4, 2, 0, 0, 0, 0);
        int[][] frames = {{0, 43, 6, 40}, {0, 40, 5, 40}, {1, 35, 5, 36}, {1, 46, 4, 40}};
        for (int k = 0; k < 4; k++) {
            for (int what = 0; what < 4; what++) {
                Due.is("new frame(" + k + ", " + what + ")", x.frame(k, what), frames[k][what]);
            }
        }
        int[][] persons = {{0, 2}, {1, 1}, {2, 3}};
        for (int i = 0; i < 3; i++) {
            for (int what = 0; what < 2; what++) {
                Due.is("new person(" + i + ", " + what + ")", x.person(i, what), persons[i][what]);
            }
        }
        int[][] turns = {{1, 1, 24}, {2, 2, 18}};
        for (int n = 0; n < 2; n++) {
            for (int what = 0; what < 3; what++) {
                Due.is("new told(" + n + ", " + what + ")", x.told(n, what), turns[n][what]);
            }
        }
        Due.is("new hers(0)", x.hers(0), 7);
    }

    private static void counts(CrookedFrames x, String where, int... want) {
        for (int what = 0; what < want.length; what++) {
            Due.is(where + ": count(" + what + ")", x.count(what), want[what]);
        }
    }

    private static void write() {
        CrookedFrames x = new CrookedFrames();
        Due.is("write(31)", x.write(31), BAD);
        Due.is("write(127)", x.write(127), BAD);
        Due.is("write(-1)", x.write(-1), BAD);
        Due.is("write(358)", x.write('f' + 256), BAD);
        Due.is("write(MIN)", x.write(Integer.MIN_VALUE), BAD);
        Due.is("write(MAX)", x.write(Integer.MAX_VALUE), BAD);
        Due.is("nothing written", x.count(7), 0);
        Due.is("write(32)", x.write(32), 1);
        Due.is("write(126)", x.write(126), 2);
        for (int n = 3; n <= 200; n++) {
            Due.is("write, " + n, x.write('f'), n);
        }
        Due.is("write, 201", x.write('f'), FULL);
        Due.is("write(31) when full", x.write(31), BAD);
        Due.is("count(7) when full", x.count(7), 200);
    }

    private static void wipe() {
        CrookedFrames x = new CrookedFrames();
        Due.is("wipe of none", x.wipe(), 0);
        Due.write(x, "f0,0;");
        Due.is("wipe", x.wipe(), 5);
        Due.is("count(7)", x.count(7), 0);
        Due.is("wipe again", x.wipe(), 0);
        Due.is("the house stays", x.count(0), 4);
        for (int n = 0; n < 201; n++) {
            x.write('a');
        }
        Due.is("wipe of 200", x.wipe(), 200);
        Due.write(x, "f1,7;");
        Due.is("lay behind wipe", x.lay(), 1);
    }

    private static void faultIs(String text, int want) {
        CrookedFrames x = Due.written(text);
        Due.is("fault() of " + text, x.fault(), want);
        Due.is("fault() of " + text + ", again", x.fault(), want);
        Due.is("fault() changes nothing", x.count(0), 4);
        Due.is("fault() keeps the text", x.count(7), text.length());
    }

    private static void fault() {
        String[] right = {"", "f0,0;", "f3,40;", "f00,00;", "f03,07;", "p3,20;", "p0,0;f0,0;",
            "f0,0;t0,0;t0,10;", "f0,0;c0,0;c0,40;", "p0,0;w0,0,0;w0,23,3;", "f0,0;n0,0,0;n30,0,40;",
            "f0,0;f0,0;t1,5;c1,5;n1,1,1;", "p0,0;p0,0;w1,1,1;", "p0,0;"};
        for (String text : right) {
            faultIs(text, NONE);
        }
        String[] wrongFirst = {"f", "f0", "f0,", "f0,0", "f0;", "f;", "f,0;", "f0,;", "f0,0,0;", "f0,0,",
            "f000,0;", "f0,000;", "f0.0;", "f0,0:", "f 0,0;", "f0, 0;", "f-1,0;", "f0,-1;", "F0,0;",
            "x0,0;", ";", ",", "0", " ", "~", "f4,0;", "f0,41;", "f0,99;", "f99,0;", "p4,0;", "p0,21;",
            "p0;", "p0,0,0;", "t0,5;", "c0,5;", "w0,0,0;", "n0,0,0;", "t0,5;f0,0;", "w0,0,0;p0,0;",
            "n0,0,0;f0,0;", "fa,0;", "f0,a;", "ff0,0;", "f0,0 ;", "f1a,0;", "f/,0;", "f0,:;"};
        for (String text : wrongFirst) {
            faultIs(text, 0);
        }
        String[] wrongLater = {"t0,11;", "t1,5;", "t0,5", "t0;", "t0,5,5;", "c1,20;", "c0,41;", "c0,2,2;",
            "n31,0,0;", "n0,1,0;", "n0,0,41;", "n0,0;", "n0,0,0,0;", "n0,0,0", "f0,0", "f4,0;", ";",
            " ", "f", "p4,0;", "w0,0,0;", "n99,0,0;"};
        for (String text : wrongLater) {
            faultIs("f0,0;" + text, 5);
            faultIs("f0,0;" + text + "f9,9;", 5);
        }
        String[] wrongComings = {"w0,24,0;", "w0,0,4;", "w1,0,0;", "w0,0;", "w0,0,0,0;", "w0,0,0"};
        for (String text : wrongComings) {
            faultIs("p0,0;" + text, 5);
        }
        faultIs("f0,20;p0,2;f9,0;x", 11);
    }

    private static void faultOfCounts() {
        faultIs("f0,0;".repeat(7), NONE);
        faultIs("f0,0;".repeat(8), 35);
        faultIs("p0,0;".repeat(5), NONE);
        faultIs("p0,0;".repeat(6), 25);
        faultIs("p0,0;" + "w0,0,0;".repeat(10), NONE);
        faultIs("p0,0;" + "w0,0,0;".repeat(11), 75);
        faultIs("f0,0;" + "n0,0,0;".repeat(8), NONE);
        faultIs("f0,0;" + "n0,0,0;".repeat(9), 61);
        faultIs("f0,0;" + "t0,1;".repeat(39), NONE);
        faultIs("f0,0;" + "c0,1;".repeat(39), NONE);
        faultIs("f0,0;" + "c0,1;".repeat(38) + "c0,1,", 195);
    }

    private static void lay() {
        CrookedFrames x = new CrookedFrames();
        Due.is("lay of none", x.lay(), NO);
        Due.write(x, "p0,0;");
        Due.is("lay without a frame", x.lay(), NO);
        Due.write(x, "f0,");
        Due.is("lay of a fault", x.lay(), NO);
        x.seen(26, 20);
        x.turn(0, 0, 0);
        x.keep();
        Due.is("lay of a fault, again", x.lay(), NO);
        counts(x, "behind NO", 4, 3, 4, 3, 1, 1, 1, 8);
        Due.is("hers(0) behind NO", x.frame(2, 3), 36);
        Due.write(x, "21;");
        Due.is("lay", x.lay(), 1);
        counts(x, "laid", 1, 1, 0, 0, 0, 0, 0, 11);
        Due.is("undo behind lay", x.undo(), NO);
        Due.is("back behind lay", x.back(), NO);
        Due.is("angle behind lay", x.angle(0, 30), 41);
        Due.is("lay again", x.lay(), 1);
        Due.write(x, "f1,40;n3,1,0;");
        Due.is("not laid yet", x.count(0), 1);
        Due.is("lay of more", x.lay(), 2);
        counts(x, "laid more", 2, 1, 0, 1, 0, 0, 0, 24);
        Due.is("days are new", x.angle(1, 3), 40);
        Due.is("days are new", x.angle(1, 2), 60);
    }

    private static void frame() {
        CrookedFrames x = Due.laid("f3,0;f0,40;t0,0;t0,10;t1,0;c0,0;c1,40;c1,39;");
        int[][] want = {{3, 20, 10, 20}, {0, 60, 0, 59}};
        for (int k = 0; k < 2; k++) {
            for (int what = 0; what < 4; what++) {
                Due.is("frame(" + k + ", " + what + ")", x.frame(k, what), want[k][what]);
            }
            Due.is("frame(.., 4)", x.frame(k, 4), BAD);
            Due.is("frame(.., -1)", x.frame(k, -1), BAD);
        }
        Due.is("frame(2, 0)", x.frame(2, 0), BAD);
        Due.is("frame(-1, 0)", x.frame(-1, 0), BAD);
        Due.is("frame(MAX, 0)", x.frame(Integer.MAX_VALUE, 0), BAD);
        Due.is("frame(MIN, 9)", x.frame(Integer.MIN_VALUE, 9), BAD);
        CrookedFrames seven = Due.laid("f0,1;f0,2;f0,3;f0,4;f0,5;f0,6;f3,7;");
        Due.is("frame(6, 1)", seven.frame(6, 1), 27);
        Due.is("frame(7, 1)", seven.frame(7, 1), BAD);
        seven.wipe();
        Due.write(seven, "f0,1;f0,2;");
        seven.lay();
        Due.is("wire of a house told anew", seven.frame(1, 2), 5);
        Due.is("frame(2, 1)", seven.frame(2, 1), BAD);
        x.wipe();
        Due.write(x, "f0,1;f0,2;");
        x.lay();
        x.lay();
        Due.is("wires do not stay", x.frame(0, 2), 5);
        Due.is("patches do not stay", x.frame(1, 3), 40);
    }

    private static void person() {
        CrookedFrames x = Due.laid("f0,0;p3,20;p0,0;p1,7;p2,8;p1,9;");
        int[][] want = {{3, 20}, {0, 0}, {1, 7}, {2, 8}, {1, 9}};
        for (int i = 0; i < 5; i++) {
            Due.is("person(" + i + ", 0)", x.person(i, 0), want[i][0]);
            Due.is("person(" + i + ", 1)", x.person(i, 1), want[i][1]);
            Due.is("person(" + i + ", 2)", x.person(i, 2), BAD);
            Due.is("person(" + i + ", -1)", x.person(i, -1), BAD);
        }
        Due.is("person(5, 0)", x.person(5, 0), BAD);
        Due.is("person(-1, 0)", x.person(-1, 0), BAD);
        Due.is("person(0, 0), nobody there", Due.laid("f0,0;").person(0, 0), BAD);
    }

    private static void angle() {
        CrookedFrames x = Due.laid("f0,38;t0,10;n1,0,40;n2,0,0;n2,0,1;");
        int[] want = {40 + 23, 80, 40 + 40 - 20 - 19, 40 + 6, 40 + 11};
        for (int day = 0; day < want.length; day++) {
            Due.is("angle(0, " + day + ")", x.angle(0, day), want[day]);
        }
        Due.is("angle(0, 30)", x.angle(0, 30), 80);
        Due.is("angle(0, 31)", x.angle(0, 31), BAD);
        Due.is("angle(0, -1)", x.angle(0, -1), BAD);
        Due.is("angle(1, 0)", x.angle(1, 0), BAD);
        Due.is("angle(-1, 0)", x.angle(-1, 0), BAD);
        // Each turn is kept within by itself: up to 40, then down by 5.
        CrookedFrames kept = Due.laid("f0,40;n0,0,40;n0,0,40;n0,0,15;");
        Due.is("kept within", kept.angle(0, 0), 75);
        CrookedFrames down = Due.laid("f0,0;t0,0;n0,0,0;n0,0,0;n0,0,21;");
        Due.is("kept within, below", down.angle(0, 0), 1);
        // Wires twist ahead of turns: 40 stays 40, then 20 down.
        CrookedFrames wires = Due.laid("f0,40;n0,0,40;n1,0,0;t0,10;");
        Due.is("wire, then turn", wires.angle(0, 1), 60);
    }

    private static void settles(String text, int from, int to) {
        CrookedFrames x = Due.laid("f0," + (from + 20) + ";" + text + "w0,0,0;");
        Due.is(text + " from " + from, x.angle(0, 0), to + 40);
        Due.is(text + " from " + from + ": hers", x.hers(0), from == to ? 0 : 1);
    }

    private static void kinds() {
        settles("p0,3;", 3, 3);
        settles("p0,3;", -3, -3);
        settles("p0,3;", 4, 0);
        settles("p0,3;", -4, 0);
        settles("p0,0;", 0, 0);
        settles("p0,0;", 1, 0);
        settles("p1,3;", 7, 3);
        settles("p1,3;", -7, -3);
        settles("p1,7;", 7, 7);
        settles("p1,0;", 1, 0);
        settles("p2,3;", 7, -3);
        settles("p2,3;", -7, 3);
        settles("p2,3;", 20, -10);
        settles("p2,20;", 20, 20);
        settles("p3,3;", 6, 6);
        settles("p3,3;", -6, -6);
        settles("p3,3;", 7, 3);
        settles("p3,3;", -7, -3);
        settles("p3,0;", -1, 0);
        settles("p3,10;", 20, 20);
        settles("p3,9;", 19, 9);
    }

    private static void hers() {
        CrookedFrames x = Due.laid("f0,30;p0,1;p0,1;w0,5,0;w1,6,0;t0,6;");
        // The first sets it to 0 each second day: 11, then 1 is borne, then 2.
        Due.is("hers(0)", x.hers(0), 1);
        Due.is("hers(1)", x.hers(1), 0);
        Due.is("hers(2)", x.hers(2), 1);
        Due.is("hers(30)", x.hers(30), 1);
        Due.is("hers(31)", x.hers(31), BAD);
        Due.is("hers(-1)", x.hers(-1), BAD);
        CrookedFrames five = Due.laid("f0,40;p1,0;p1,0;p1,0;p1,0;p1,0;w0,0,0;w1,0,0;w2,0,0;w3,0,0;w4,0,0;");
        Due.is("all five", five.hers(0), 31);
        Due.is("20, 10, 5, 2, 1, 0", five.angle(0, 0), 40);
        CrookedFrames nobody = Due.laid("f0,40;p0,0;");
        Due.is("nobody comes", nobody.hers(0), 0);
    }

    private static void order() {
        // By hours, not as told; of one hour as told.
        CrookedFrames x = Due.laid("f0,40;p1,0;p0,0;p3,2;w0,9,0;w1,8,0;");
        Due.is("the earlier one", x.hers(0), 2);
        CrookedFrames y = Due.laid("f0,40;p0,0;p0,0;p0,0;w2,8,0;w1,8,0;w0,8,0;w0,23,0;w2,9,0;");
        Due.is("of one hour the first told", y.hers(0), 4);
        CrookedFrames z = Due.laid("f0,40;p0,0;p0,0;p0,0;w2,9,0;w0,8,0;w1,8,0;w2,7,1;");
        Due.is("of one hour the first told, put ahead", z.hers(0), 1);
        // The first frame by number that he does not bear, of that room alone, one a day.
        CrookedFrames r = Due.laid("f1,40;f0,22;f0,40;f0,0;p0,2;w0,1,0;w0,2,0;w0,3,1;");
        Due.is("sets the first he does not bear", r.sets(0, 0), 2);
        Due.is("the next one another day", r.sets(0, 1), 3);
        Due.is("then another room", r.sets(0, 2), 0);
        Due.is("then none", r.sets(0, 3), NONE);
        Due.is("left as it was", r.angle(0, 1), 60);
        Due.is("borne", r.angle(1, 30), 42);
    }

    private static void sets() {
        CrookedFrames x = Due.laid("f0,30;f1,30;p0,1;p0,1;w0,5,0;w1,6,0;w1,7,1;");
        Due.is("sets(0, 0)", x.sets(0, 0), 0);
        Due.is("sets(1, 0)", x.sets(1, 0), 1);
        Due.is("sets(0, 1)", x.sets(0, 1), NONE);
        Due.is("sets(2, 0)", x.sets(2, 0), BAD);
        Due.is("sets(-1, 0)", x.sets(-1, 0), BAD);
        Due.is("sets(0, 31)", x.sets(0, 31), BAD);
        Due.is("sets(0, -1)", x.sets(0, -1), BAD);
        Due.is("sets(0, 30)", x.sets(0, 30), NONE);
    }

    private static void rest() {
        Due.is("rest at once", Due.laid("f0,30;").rest(), 0);
        Due.is("rest behind a turn", Due.laid("f0,30;n5,0,21;").rest(), 6);
        Due.is("rest behind a turn at first", Due.laid("f0,30;n0,0,21;").rest(), 1);
        Due.is("no rest: the last night", Due.laid("f0,30;n30,0,21;").rest(), NONE);
        Due.is("rest on the last day", Due.laid("f0,30;n29,0,21;").rest(), 30);
        Due.is("no rest: swings", Due.laid("f0,20;p0,1;w0,0,0;t0,6;").rest(), NONE);
        Due.is("rest: twisted and set right", Due.laid("f0,20;p0,0;w0,0,0;t0,6;").rest(), 0);
        Due.is("rest at the end of twisting", Due.laid("f0,20;f0,20;t1,0;").rest(), 8);
        // A turn there and back leaves it as it was.
        Due.is("turned there and back", Due.laid("f0,30;n9,0,25;n9,0,15;").rest(), 0);
        // The first one from which on nothing changes, not the first one without change.
        Due.is("a rest that ends", Due.laid("f0,30;n2,0,25;n9,0,15;").rest(), 10);
        Due.is("rest of the first house", new CrookedFrames().rest(), NONE);
    }

    private static void sways() {
        Due.is("sways, none", Due.laid("f0,30;f0,0;").sways(), 0);
        Due.is("sways at first alone", Due.laid("f0,30;n0,0,21;").sways(), 0);
        Due.is("sways of the last day", Due.laid("f0,30;f0,30;n30,1,21;").sways(), 1);
        Due.is("sways for a day", Due.laid("f0,30;f0,30;n4,0,21;n5,0,19;n6,1,20;").sways(), 1);
        Due.is("sways at first", Due.laid("f0,30;n1,0,21;n2,0,19;").sways(), 1);
        Due.is("sways on day 1 alone", Due.laid("f0,30;n0,0,21;n1,0,19;").sways(), 1);
        Due.is("sways, all", Due.laid("f0,0;f0,1;f0,2;t0,6;t1,6;t2,6;").sways(), 3);
        Due.is("sways of the first house", new CrookedFrames().sways(), 3);
    }

    private static void told() {
        CrookedFrames x = Due.laid("f0,0;f0,0;n30,1,40;n0,0,0;");
        int[][] want = {{30, 1, 40}, {0, 0, 0}};
        for (int n = 0; n < 2; n++) {
            for (int what = 0; what < 3; what++) {
                Due.is("told(" + n + ", " + what + ")", x.told(n, what), want[n][what]);
            }
            Due.is("told(.., 3)", x.told(n, 3), BAD);
            Due.is("told(.., -1)", x.told(n, -1), BAD);
        }
        Due.is("told(2, 0)", x.told(2, 0), BAD);
        Due.is("told(-1, 0)", x.told(-1, 0), BAD);
        x.leave(1);
        Due.is("told(1, 0) when left out", x.told(1, 0), BAD);
    }

    private static void turn() {
        CrookedFrames x = Due.laid("f0,20;f0,20;");
        int[][] wrong = {{31, 0, 0}, {-1, 0, 0}, {0, 2, 0}, {0, -1, 0}, {0, 0, 41}, {0, 0, -1},
            {Integer.MIN_VALUE, 0, 0}, {0, Integer.MAX_VALUE, 0}, {0, 0, Integer.MIN_VALUE}};
        for (int[] w : wrong) {
            Due.is("turn, wrong", x.turn(w[0], w[1], w[2]), BAD);
        }
        Due.is("nothing to undo", x.count(5), 0);
        Due.is("turn(0, 0, 40)", x.turn(0, 0, 40), 1);
        Due.is("angle", x.angle(0, 0), 60);
        Due.is("turn(0, 0, 40)", x.turn(0, 0, 40), 2);
        Due.is("turn(0, 0, 0)", x.turn(0, 0, 0), 3);
        Due.is("in order", x.angle(0, 0), 60);
        Due.is("turn(30, 1, 0)", x.turn(30, 1, 0), 4);
        Due.is("angle(1, 29)", x.angle(1, 29), 40);
        Due.is("angle(1, 30)", x.angle(1, 30), 20);
        for (int n = 5; n <= 8; n++) {
            Due.is("turn, " + n, x.turn(n, 1, 20), n);
        }
        Due.is("turn, 9", x.turn(0, 0, 0), FULL);
        Due.is("turn, 9, wrong", x.turn(0, 0, 41), BAD);
        counts(x, "full", 2, 0, 0, 8, 0, 8, 0, 12);
        Due.is("told(7, 0)", x.told(7, 0), 8);
    }

    private static void leave() {
        CrookedFrames x = Due.laid("f0,20;n0,0,21;n1,0,22;n2,0,23;");
        Due.is("leave(3)", x.leave(3), BAD);
        Due.is("leave(-1)", x.leave(-1), BAD);
        Due.is("count(5)", x.count(5), 0);
        Due.is("leave(1)", x.leave(1), 2);
        Due.is("told(0, 2)", x.told(0, 2), 21);
        Due.is("told(1, 2)", x.told(1, 2), 23);
        Due.is("angle", x.angle(0, 30), 44);
        Due.is("leave(0)", x.leave(0), 1);
        Due.is("told(0, 0)", x.told(0, 0), 2);
        Due.is("leave(0)", x.leave(0), 0);
        Due.is("leave(0), none", x.leave(0), BAD);
        Due.is("angle", x.angle(0, 30), 40);
        Due.is("count(5)", x.count(5), 3);
        CrookedFrames full = Due.laid("f0,20;" + "n0,0,21;".repeat(7) + "n0,0,30;");
        Due.is("leave of eight", full.leave(7), 7);
        Due.is("angle", full.angle(0, 0), 47);
        Due.is("room again", full.turn(1, 0, 21), 8);
    }

    private static void undo() {
        CrookedFrames x = Due.laid("f0,20;n0,0,21;n1,0,22;n2,0,23;");
        Due.is("undo of none", x.undo(), NO);
        x.leave(1);
        x.turn(5, 0, 30);
        x.leave(0);
        Due.is("undo", x.undo(), 2);
        Due.is("told(0, 2)", x.told(0, 2), 21);
        Due.is("undo", x.undo(), 1);
        Due.is("count(3)", x.count(3), 2);
        Due.is("undo", x.undo(), 0);
        Due.is("count(3)", x.count(3), 3);
        Due.is("told(1, 0)", x.told(1, 0), 1);
        Due.is("told(1, 2)", x.told(1, 2), 22);
        Due.is("told(2, 2)", x.told(2, 2), 23);
        Due.is("angle(0, 30)", x.angle(0, 30), 46);
        Due.is("undo of none", x.undo(), NO);
        for (int n = 0; n < 5; n++) {
            x.leave(0);
            x.turn(n, 0, 20 + n);
        }
        Due.is("the last 8 can be", x.count(5), 8);
        for (int n = 7; n >= 0; n--) {
            Due.is("undo, " + n, x.undo(), n);
        }
        Due.is("undo, a ninth", x.undo(), NO);
        int[] want = {22, 23, 20};
        for (int n = 0; n < 3; n++) {
            Due.is("told(" + n + ", 2)", x.told(n, 2), want[n]);
        }
        x.turn(0, 0, 0);
        x.keep();
        Due.is("keep undoes nothing", x.count(5), 1);
        Due.is("undo behind keep", x.undo(), 0);
        Due.is("kept stays", x.count(6), 1);
    }

    private static void tempt() {
        CrookedFrames x = Due.laid("f0,22;f0,17;f0,20;p0,4;p3,2;w0,0,0;w1,0,1;");
        // Frame 0 is at 2, frame 1 at 3 below: 3 up, 7 down; 2 down, 8 up; 5.
        Due.is("least", x.tempt(0, 0), 118);
        Due.is("no frame there", x.tempt(1, 0), NONE);
        Due.is("tempt(2, 0)", x.tempt(2, 0), BAD);
        Due.is("tempt(-1, 0)", x.tempt(-1, 0), BAD);
        Due.is("tempt(0, 31)", x.tempt(0, 31), BAD);
        Due.is("tempt(0, -1)", x.tempt(0, -1), BAD);
        Due.is("upwards first", Due.laid("f0,20;p0,4;w0,0,0;").tempt(0, 30), 25);
        Due.is("the first frame first", Due.laid("f0,18;f0,22;p0,4;w0,0,0;").tempt(0, 0), 17);
        Due.is("by 20", Due.laid("f0,20;p0,19;w0,0,0;").tempt(0, 0), 40);
        Due.is("by 20 downwards", Due.laid("f0,19;p0,20;w0,0,0;").tempt(0, 0), 0);
        Due.is("none by 20", Due.laid("f0,20;p0,20;w0,0,0;").tempt(0, 0), NONE);
        Due.is("lazy", Due.laid("f0,20;p3,9;w0,0,0;").tempt(0, 0), 39);
        // One who is hers anyhow: the least turn by which he still is.
        Due.is("hers anyhow", Due.laid("f0,30;p0,4;w0,0,0;").tempt(0, 0), 21);
        Due.is("hers by twisting", Due.laid("f0,20;t0,10;p0,4;w0,0,0;").tempt(0, 0), 21);
        // Behind other turns of that night, kept within.
        Due.is("behind all others", Due.laid("f0,40;n0,0,40;n0,0,0;p3,10;w0,0,0;").tempt(0, 0), 21);
        // To get the second one it must be borne by the first.
        CrookedFrames two = Due.laid("f0,40;p0,12;p0,9;w0,0,0;w1,1,0;");
        Due.is("past the first one", two.tempt(1, 0), 12);
    }

    private static void fewest() {
        CrookedFrames x = Due.laid("f0,20;f1,20;p0,4;p0,4;w0,0,0;w1,0,1;");
        Due.is("fewest(0, 0)", x.fewest(0, 0), 0);
        Due.is("fewest(1, 0)", x.fewest(1, 0), 1);
        Due.is("fewest(2, 30)", x.fewest(2, 30), 1);
        Due.is("fewest(3, 0)", x.fewest(3, 0), 2);
        Due.is("fewest(4, 0)", x.fewest(4, 0), BAD);
        Due.is("fewest(-1, 0)", x.fewest(-1, 0), BAD);
        Due.is("fewest(0, 31)", x.fewest(0, 31), BAD);
        Due.is("fewest(0, -1)", x.fewest(0, -1), BAD);
        Due.is("three need three", Due.laid("f0,20;f1,20;f2,20;p0,4;p0,4;p0,4;w0,0,0;w1,0,1;w2,0,2;")
                .fewest(7, 0), NONE);
        Due.is("hers anyhow", Due.laid("f0,30;p0,4;w0,0,0;").fewest(1, 0), 0);
        Due.is("never comes", Due.laid("f0,30;p0,4;").fewest(1, 0), NONE);
        Due.is("two of one frame", Due.laid("f0,20;p3,10;w0,0,0;").fewest(1, 0), 2);
        Due.is("two of one frame, not enough", Due.laid("f0,20;p3,20;w0,0,0;").fewest(1, 0), NONE);
        Due.is("two of one frame, the whole way", Due.laid("f0,20;p3,19;w0,0,0;").fewest(1, 0), 2);
        Due.is("nobody there", Due.laid("f0,0;").fewest(1, 0), BAD);
        Due.is("nobody there, none", Due.laid("f0,0;").fewest(0, 0), 0);
        Due.is("all five", Due.laid("f0,20;p1,0;p1,0;p1,0;p1,0;p1,0;w0,0,0;w1,0,0;w2,0,0;w3,0,0;w4,0,0;")
                .fewest(31, 0), 1);
        Due.is("fewest(32, 0)", Due.laid("f0,20;p1,0;p1,0;p1,0;p1,0;p1,0;").fewest(32, 0), BAD);
    }

    private static void safe() {
        CrookedFrames x = Due.laid("f0,20;f1,30;p0,20;p0,19;p0,0;p0,0;p0,1;w0,0,0;w1,0,0;w2,0,2;w4,0,1;");
        // 0 bears all a turn can do, 1 does not; 2 finds no frame, 3 never comes; 4 is hers anyhow.
        Due.is("safe(0)", x.safe(0), 13);
        Due.is("safe(31)", x.safe(31), BAD);
        Due.is("safe(-1)", x.safe(-1), BAD);
        Due.is("safe, nobody there", Due.laid("f0,0;").safe(30), 0);
        Due.is("safe behind another one", Due.laid("f0,40;p0,0;p0,0;w0,0,0;w1,0,0;").safe(0), 2);
        // Two turns could, one cannot.
        Due.is("safe from one", Due.laid("f0,20;p3,10;w0,0,0;").safe(0), 1);
        Due.is("safe by day", Due.laid("f0,20;t0,6;p3,10;w0,0,0;").safe(1), 0);
    }

    private static void hang() {
        CrookedFrames x = Due.laid("f0,40;f0,0;f1,40;f2,22;f0,23;p0,5;p3,1;p1,3;p0,0;"
                + "w0,0,0;w0,1,1;w1,0,0;w2,3,2;");
        // Room 0: 2 (lazy, twice 1), so 18, 18, 1; room 1: 5, so 15; room 2: 3, borne.
        Due.is("hang(0)", x.hang(0), 52);
        Due.is("hang(1)", x.hang(1), 4);
        Due.is("hang(2)", x.hang(2), BAD);
        Due.is("hang(-1)", x.hang(-1), BAD);
        CrookedFrames one = Due.laid("f0,40;p0,5;w0,0,0;");
        Due.is("one coming", one.hang(0), 15);
        Due.is("one coming", one.hang(1), 1);
        CrookedFrames calm = Due.laid("f0,40;f1,0;p0,20;p0,0;w0,0,0;t0,10;n0,0,40;");
        Due.is("as told", calm.hang(0), 0);
        Due.is("as told", calm.hang(1), 0);
    }

    private static void seen() {
        CrookedFrames x = new CrookedFrames();
        int[][] wrong = {{41, 0}, {-1, 0}, {0, 41}, {0, -1}, {Integer.MAX_VALUE, 0}, {0, Integer.MIN_VALUE}};
        for (int[] w : wrong) {
            Due.is("seen, wrong", x.seen(w[0], w[1]), BAD);
        }
        Due.is("count(4)", x.count(4), 0);
        for (int n = 1; n <= 8; n++) {
            Due.is("seen, " + n, x.seen(40, 40), n);
        }
        Due.is("seen, 9", x.seen(0, 0), FULL);
        Due.is("seen, 9, wrong", x.seen(0, 41), BAD);
        Due.is("count(4)", x.count(4), 8);
        Due.is("bears: 20 alone", x.bears(0), 1 << 20);
    }

    private static void forget() {
        CrookedFrames x = new CrookedFrames();
        Due.is("forget of none", x.forget(), 0);
        x.seen(40, 20);
        x.seen(30, 30);
        Due.is("forget", x.forget(), 2);
        Due.is("count(4)", x.count(4), 0);
        Due.is("bears", x.bears(0), (1 << 21) - 1);
        Due.is("forget again", x.forget(), 0);
        Due.is("seen anew", x.seen(40, 40), 1);
        Due.is("bears", x.bears(0), 1 << 20);
    }

    private static void bears() {
        CrookedFrames x = new CrookedFrames();
        Due.is("bears(4)", x.bears(4), BAD);
        Due.is("bears(-1)", x.bears(-1), BAD);
        for (int kind = 0; kind < 4; kind++) {
            Due.is("bears, nothing seen", x.bears(kind), (1 << 21) - 1);
        }
        x.seen(30, 25);
        Due.is("10 to 5: level", x.bears(0), 0);
        Due.is("10 to 5: half", x.bears(1), (1 << 10) - 1);
        Due.is("10 to 5: over", x.bears(2), 0);
        // Twice 5 is borne.
        Due.is("10 to 5: lazy", x.bears(3), 0);
        x.seen(15, 15);
        Due.is("and 5 below is borne: half", x.bears(1), (1 << 10) - 1 - 31);
        x.forget();
        x.seen(9, 16);
        Due.is("11 below to 4 below: lazy", x.bears(3), 1 << 4);
        x.seen(29, 24);
        Due.is("and 9 to 4", x.bears(3), 1 << 4);
        x.seen(28, 28);
        Due.is("and 8 is borne", x.bears(3), 1 << 4);
        x.seen(28, 24);
        Due.is("and 8 is not", x.bears(3), 0);
        x.forget();
        x.seen(9, 25);
        Due.is("11 below to 5: over", x.bears(2), (1 << 11) - 1);
        x.forget();
        x.seen(20, 20);
        Due.is("level is borne by all", x.bears(2), (1 << 21) - 1);
        x.seen(20, 21);
        Due.is("nobody sets it crooked", x.bears(1), 0);
    }

    private static void look() {
        CrookedFrames x = new CrookedFrames();
        int[][] wrong = {{4, 0}, {-1, 0}, {0, 2}, {0, -1}};
        for (int[] w : wrong) {
            Due.is("look, wrong", x.look(w[0], w[1]), BAD);
        }
        // All 21: at 10, ten do one thing and eleven the other, at 11 the other way round.
        Due.is("look(0, 0)", x.look(0, 0), 10);
        Due.is("look(0, 1)", x.look(0, 1), 11);
        Due.is("look(1, 0)", x.look(1, 0), 10);
        Due.is("look(2, 1)", x.look(2, 1), 11);
        // Lazy: at 19 those of 0 to 9 all differ, 11 bear it.
        Due.is("look(3, 0)", x.look(3, 0), 19);
        Due.is("look(3, 1)", x.look(3, 1), 11);
        x.seen(25, 25);
        x.seen(26, 20);
        // 5 alone: nothing tells more, the least is answered.
        Due.is("one left", x.look(0, 0), 0);
        Due.is("one left, how many", x.look(0, 1), 1);
        Due.is("none left", x.look(3, 0), NONE);
        Due.is("none left", x.look(1, 1), NONE);
        Due.is("none left, wrong", x.look(1, 2), BAD);
        x.forget();
        x.seen(40, 40);
        Due.is("lazy, 10 to 20", x.look(3, 0), 0);
        x.forget();
        x.seen(39, 39);
        Due.is("19 or 20", x.look(0, 0), 20);
        Due.is("19 or 20, how many", x.look(0, 1), 1);
        x.forget();
        x.seen(22, 20);
        Due.is("0 or 1", x.look(0, 0), 1);
        Due.is("0 or 1, how many", x.look(0, 1), 1);
        x.forget();
        x.seen(40, 40);
        Due.is("lazy, 10 to 20, how many", x.look(3, 1), 11);
    }

    private static void who() {
        CrookedFrames x = Due.laid("f0,0;p0,3;p1,3;p2,3;p3,3;p3,5;");
        int[][] wrong = {{41, 0}, {-1, 0}, {0, 41}, {0, -1}, {20, 20}, {0, 0}};
        for (int[] w : wrong) {
            Due.is("who, wrong", x.who(w[0], w[1]), BAD);
        }
        Due.is("7 to 0", x.who(27, 20), 1);
        Due.is("7 to 3", x.who(27, 23), 2 + 8);
        Due.is("7 to 3 below", x.who(27, 17), 4);
        Due.is("7 below to 3 below", x.who(13, 17), 2 + 8);
        Due.is("20 below to 5 below", x.who(0, 15), 16);
        Due.is("20 below to 10", x.who(0, 30), 4);
        Due.is("3 to 0", x.who(23, 20), 0);
        Due.is("20 to 20 below", x.who(40, 0), 0);
        Due.is("20 below to 20", x.who(0, 40), 0);
        Due.is("nobody there", Due.laid("f0,0;").who(40, 20), 0);
    }

    private static void ends() {
        CrookedFrames x = Due.laid("f0,0;p0,3;p1,1;p2,3;p3,3;p0,20;");
        int[][] wrong = {{5, 0, 0, 0}, {-1, 0, 0, 0}, {0, 5, 0, 0}, {0, -1, 0, 0}, {0, 0, 41, 0},
            {0, 0, -1, 0}, {0, 0, 0, 2}, {0, 0, 0, -1}};
        for (int[] w : wrong) {
            Due.is("ends, wrong", x.ends(w[0], w[1], w[2], w[3]), BAD);
        }
        // {i, j, a, angle, comings}
        int[][] want = {{0, 1, 21, 41, 0}, {0, 1, 22, 41, 2}, {1, 0, 22, 41, 1}, {0, 1, 24, 40, 1},
            {1, 2, 40, 39, 5}, {2, 2, 40, 38, 3}, {3, 3, 40, 43, 1}, {3, 3, 0, 37, 1}, {4, 4, 40, 60, 0},
            {4, 4, 0, 20, 0}, {4, 0, 0, 40, 2}, {0, 4, 0, 40, 1}, {1, 1, 40, 41, 4}, {1, 1, 0, 39, 4},
            {3, 1, 0, 39, 2}, {0, 0, 20, 40, 0}};
        for (int[] w : want) {
            String call = "ends(" + w[0] + ", " + w[1] + ", " + w[2] + ", ";
            Due.is(call + "0)", x.ends(w[0], w[1], w[2], 0), w[3]);
            Due.is(call + "1)", x.ends(w[0], w[1], w[2], 1), w[4]);
        }
    }

    private static void wire() {
        CrookedFrames x = new CrookedFrames();
        int[][] wrong = {{41, 0, 0, 0, 0, 0}, {-1, 0, 0, 0, 0, 0}, {0, 21, 0, 0, 0, 0}, {0, -1, 0, 0, 0, 0},
            {0, 0, 7, 0, 0, 0}, {0, 0, -1, 0, 0, 0}, {0, 0, 0, 11, 0, 0}, {0, 0, 0, -1, 0, 0},
            {0, 0, 0, 0, 11, 0}, {0, 0, 0, 0, -1, 0}, {0, 0, 0, 5, 6, 0}, {0, 0, 0, 0, 0, 2},
            {0, 0, 0, 0, 0, -1}, {0, 0, 0, Integer.MAX_VALUE, Integer.MAX_VALUE, 0},
            {0, 0, 0, Integer.MIN_VALUE, Integer.MIN_VALUE, 0}, {0, 0, 0, -5, 15, 0}};
        for (int[] w : wrong) {
            Due.is("wire, wrong", x.wire(w[0], w[1], w[2], w[3], w[4], w[5]), BAD);
        }
        // {a, l, n, x, y, above, below}
        int[][] want = {{20, 0, 0, 10, 0, 1, 1}, {21, 0, 0, 5, 5, 0, 1}, {20, 0, 6, 10, 0, 0, 1},
            {20, 6, 6, 10, 0, 1, 1}, {20, 5, 6, 0, 10, 0, 1}, {20, 6, 6, 0, 10, 1, 1},
            {20, 0, 1, 3, 3, 2, 5}, {20, 0, 2, 3, 3, 17, 50}, {20, 0, 6, 5, 5, 5, 16},
            {20, 0, 6, 0, 0, 1, 1}, {40, 20, 1, 1, 0, 9, 10},
            {0, 20, 1, 1, 0, 1, 1}, {0, 20, 1, 0, 1, 9, 10}, {20, 20, 6, 3, 7, 1, 1}, {26, 0, 6, 0, 1, 1, 1000000},
            {14, 0, 6, 2, 0, 1, 15625}, {25, 0, 6, 0, 1, 27, 500000}};
        for (int[] w : want) {
            String call = "wire(" + w[0] + ", " + w[1] + ", " + w[2] + ", " + w[3] + ", " + w[4] + ", ";
            Due.is(call + "0)", x.wire(w[0], w[1], w[2], w[3], w[4], 0), w[5]);
            Due.is(call + "1)", x.wire(w[0], w[1], w[2], w[3], w[4], 1), w[6]);
        }
    }

    private static void most() {
        CrookedFrames x = Due.laid("f0,20;f1,20;t0,6;t1,6;p0,1;p0,0;p0,0;w0,0,0;w1,0,1;w2,1,1;");
        // 0 sets 0 right each second day, 1 each day, 2 never.
        Due.is("most(0)", x.most(0), 1);
        Due.is("most(1)", x.most(1), 31);
        Due.is("most(2)", x.most(2), BAD);
        Due.is("most(-1)", x.most(-1), BAD);
        CrookedFrames alike = Due.laid("f0,20;f1,20;t0,6;t1,6;p0,0;p0,1;p0,1;w1,0,1;w2,1,0;");
        Due.is("the lowest", alike.most(0), 1);
        Due.is("the lowest, how many", alike.most(1), 15);
        CrookedFrames never = Due.laid("f0,20;p0,0;p0,0;w1,0,0;");
        Due.is("never", never.most(0), 0);
        Due.is("never, how many", never.most(1), 0);
        CrookedFrames nobody = Due.laid("f0,20;");
        Due.is("nobody there", nobody.most(0), NONE);
        Due.is("nobody there, how many", nobody.most(1), NONE);
        Due.is("nobody there, wrong", nobody.most(2), BAD);
    }

    private static void patches() {
        CrookedFrames x = Due.laid("f0,20;f0,18;f0,40;t1,6;c2,40;");
        // 0 is level always, 1 at 1 below, 0, 1, ..; 2 as its patch.
        Due.is("patches(0)", x.patches(0), 2);
        Due.is("patches(1)", x.patches(1), 3);
        Due.is("patches(2)", x.patches(2), 2);
        Due.is("patches(30)", x.patches(30), 2);
        Due.is("patches(31)", x.patches(31), BAD);
        Due.is("patches(-1)", x.patches(-1), BAD);
        CrookedFrames beyond = Due.laid("f0,30;n0,0,31;c0,39;c0,40;");
        Due.is("beyond", beyond.patches(0), 0);
        Due.is("in the evening", Due.laid("f0,30;p3,3;w0,0,0;c0,23;").patches(0), 1);
    }

    private static void night() {
        CrookedFrames x = Due.laid("f0,25;t0,7;");
        int[][] wrong = {{10000, 0}, {-1, 0}, {0, 2}, {0, -1}};
        for (int[] w : wrong) {
            Due.is("night, wrong", x.night(w[0], w[1]), BAD);
        }
        int[] zs = {0, 1, 77, 5000, 9999};
        for (int z : zs) {
            int at = 5;
            for (int d = 0; d <= 30; d++) {
                long q = 7919L * z + 6151L * d + 1;
                int draw = (int) (q * q % 65521);
                at = Math.min(40, at + 2);
                at = Math.max(-40, Math.min(40, at + draw / 8 % 41 - 20));
            }
            Due.is("night(" + z + ", 1)", x.night(z, 1), at + 40);
            Due.is("night(" + z + ", 0)", x.night(z, 0), 0);
        }
        // It ends somewhere else if a night begins where the last one ended.
        CrookedFrames still = Due.laid("f0,25;f1,20;f1,20;f1,20;f1,20;f1,20;f1,20;");
        Due.is("night, twice alike", still.night(8, 1), still.night(8, 1));
        // Each person is counted on each day; turns that were told play no part.
        CrookedFrames both = Due.laid("f0,40;p1,0;p1,0;w0,0,0;w1,1,0;n0,0,0;n1,0,0;");
        int often = 0;
        int at = 20;
        for (int d = 0; d <= 30; d++) {
            long q = 7919L * 4321 + 6151L * d + 1;
            int draw = (int) (q * q % 65521);
            at = Math.max(-40, Math.min(40, at + draw / 8 % 41 - 20));
            often += at != 0 ? 1 : 0;
            at /= 2;
            often += at != 0 ? 1 : 0;
            at /= 2;
        }
        Due.is("night(4321, 0)", both.night(4321, 0), often);
        Due.is("night(4321, 1)", both.night(4321, 1), at + 40);
        Due.is("nothing changes", both.count(3), 2);
        Due.is("nothing changes", both.hers(0), 0);
    }

    private static void keep() {
        CrookedFrames x = new CrookedFrames();
        Due.is("keep", x.keep(), 1);
        x.leave(0);
        Due.is("keep", x.keep(), 2);
        x.leave(0);
        Due.is("keep, a third", x.keep(), FULL);
        Due.is("count(6)", x.count(6), 2);
        Due.is("count(3)", x.count(3), 0);
        Due.is("back", x.back(), 1);
        Due.is("the second was kept", x.count(3), 1);
        Due.is("keep again", x.keep(), 2);
    }

    private static void back() {
        CrookedFrames x = new CrookedFrames();
        Due.is("back of none", x.back(), NO);
        x.turn(9, 3, 7);
        x.keep();
        x.leave(0);
        x.keep();
        x.leave(0);
        x.turn(1, 1, 1);
        Due.is("back", x.back(), 1);
        Due.is("count(3)", x.count(3), 2);
        Due.is("told(0, 1)", x.told(0, 1), 2);
        Due.is("told(1, 2)", x.told(1, 2), 7);
        Due.is("nothing is undone", x.count(5), 0);
        Due.is("undo", x.undo(), NO);
        Due.is("hers(1) as turned", x.hers(1), 6);
        Due.is("back", x.back(), 0);
        Due.is("count(3)", x.count(3), 3);
        Due.is("told(2, 0)", x.told(2, 0), 9);
        Due.is("hers(1)", x.hers(1), 7);
        x.leave(2);
        Due.is("back, NO", x.back(), NO);
        Due.is("NO changes nothing", x.count(5), 1);
        x.seen(0, 20);
        x.keep();
        x.back();
        Due.is("seen stays", x.count(4), 1);
    }

    private static void count() {
        CrookedFrames x = Due.laid("f0,0;f1,0;f2,0;p0,0;p0,0;w0,0,0;n0,0,0;n0,0,0;n0,0,0;n0,0,0;");
        x.seen(0, 0);
        x.seen(1, 1);
        x.seen(2, 2);
        x.leave(0);
        x.turn(0, 1, 2);
        x.keep();
        x.write('!');
        counts(x, "count", 3, 2, 1, 4, 3, 2, 1, 61);
        Due.is("count(8)", x.count(8), BAD);
        Due.is("count(-1)", x.count(-1), BAD);
    }
}
