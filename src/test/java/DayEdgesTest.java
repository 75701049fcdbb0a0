/** Parts 2 and 3 of the document (angles, days, turns, whom she gets), sentence by sentence at the edges. */
public final class DayEdgesTest {
    private static final int BAD = -1, NO = -2, FULL = -3, NONE = -4;

    private DayEdgesTest() {
    }

    public static void main(String[] args) {
        keptWithinByWires();
        keptWithinByTurns();
        wiresAheadOfTurns();
        turnsInOrder();
        nightsOfTheirNumber();
        byHours();
        oneADay();
        firstFrameOfTheRoom();
        fartherThanHeBears();
        howTheySet();
        hersAsBits();
        turnsTold();
        turnsLeftOut();
        lastEightUndone();
        undoneBothWays();
        refusedIsNotUndone();
        daysAreNewBehindTurns();
        restAtItsEdges();
        swaysAtItsEdges();
        temptByOneToTwenty();
        temptOfSeveral();
        temptKeptWithin();
        temptBehindAllOthers();
        fewestOfNone();
        fewestOneOrTwo();
        fewestTwoOfOneFrame();
        fewestOfDaysOneBehindTheOther();
        safeAtItsEdges();
        hersOnlyAsItHangs();
        hangAtItsEdges();
        Due.close();
    }

    // ANGLES are HAIRS from 40 below 0 to 40 (kept within).
    private static void keptWithinByWires() {
        CrookedFrames x = Due.laid("f0,40;f0,0;f0,40;f0,0;t0,9;t1,1;t2,8;t3,2;");
        // By 4: 20, 24, .. 40 is met; by 3: 20, 23, .. 38, then 41 would be.
        int[][] want = {{76, 80, 80}, {4, 0, 0}};
        for (int n = 0; n < 3; n++) {
            Due.is("40 is met, day " + (3 + n), x.angle(0, 3 + n), want[0][n]);
            Due.is("40 below is met, day " + (3 + n), x.angle(1, 3 + n), want[1][n]);
        }
        int[][] past = {{78, 80, 80}, {2, 0, 0}};
        for (int n = 0; n < 3; n++) {
            Due.is("41 is not met, day " + (5 + n), x.angle(2, 5 + n), past[0][n]);
            Due.is("41 below is not met, day " + (5 + n), x.angle(3, 5 + n), past[1][n]);
        }
        Due.is("nor on the last day", x.angle(2, 30), 80);
        Due.is("nor on the last day", x.angle(3, 30), 0);
    }

    private static void keptWithinByTurns() {
        // {angle, turn, turn, evening}: kept within behind each turn, not behind all of them.
        int[][] want = {{40, 40, 20, 80}, {39, 40, 20, 79}, {40, 40, 21, 80}, {40, 40, 19, 79}, {40, 40, 0, 60},
            {0, 0, 20, 0}, {1, 0, 20, 1}, {0, 0, 19, 0}, {0, 0, 21, 1}, {0, 0, 40, 20}};
        for (int[] w : want) {
            CrookedFrames x = Due.laid("f0," + w[0] + ";n0,0," + w[1] + ";n0,0," + w[2] + ";");
            Due.is("turned", x.angle(0, 0), w[3]);
        }
        CrookedFrames up = Due.laid("f0,40;n0,0,40;n0,0,40;n0,0,15;");
        Due.is("40, 40, then 5 down", up.angle(0, 0), 75);
        CrookedFrames down = Due.laid("f0,0;n0,0,0;n0,0,0;n0,0,25;");
        Due.is("40 below, 40 below, then 5 up", down.angle(0, 0), 5);
    }

    // FRAMES twist (by wires), then are turned
    private static void wiresAheadOfTurns() {
        Due.is("kept within, then turned down", Due.laid("f0,40;n0,0,40;n1,0,0;t0,10;").angle(0, 1), 60);
        Due.is("kept within, then turned up", Due.laid("f0,0;n0,0,0;n1,0,40;t0,0;").angle(0, 1), 20);
        Due.is("on day 0, too", Due.laid("f0,20;t0,7;n0,0,23;").angle(0, 0), 45);
    }

    // TURNS in order
    private static void turnsInOrder() {
        Due.is("up, then down", Due.laid("f0,40;n0,0,40;n0,0,40;n0,0,0;").angle(0, 0), 60);
        Due.is("down, then up", Due.laid("f0,40;n0,0,0;n0,0,40;n0,0,40;").angle(0, 0), 80);
        CrookedFrames x = Due.laid("f0,40;n5,0,0;n0,0,40;");
        x.turn(0, 0, 39);
        x.turn(0, 0, 10);
        Due.is("one told later comes later", x.angle(0, 0), 70);
    }

    // A DAY (0 first): in the night of its number
    private static void nightsOfTheirNumber() {
        for (int night = 0; night <= 30; night++) {
            CrookedFrames x = Due.laid("f0,20;n" + night + ",0,27;");
            for (int day = 0; day <= 30; day++) {
                Due.is("night " + night + ", day " + day, x.angle(0, day), day < night ? 40 : 47);
            }
        }
    }

    // by hours, of one hour by COMINGS as told
    private static void byHours() {
        for (int hour = 0; hour < 23; hour++) {
            String two = "f0,40;p0,0;p0,0;w0," + (hour + 1) + ",0;w1," + hour + ",0;";
            Due.is("hour " + hour + " is ahead of the next", Due.laid(two).hers(0), 2);
            String one = "f0,40;p0,0;p0,0;w1," + hour + ",0;w0," + hour + ",0;";
            Due.is("of hour " + hour + " as told", Due.laid(one).hers(0), 2);
        }
        Due.is("0 is ahead of 23", Due.laid("f0,40;p0,0;p0,0;w0,23,0;w1,0,0;").hers(0), 2);
        Due.is("of hour 23 as told", Due.laid("f0,40;p0,0;p0,0;w1,23,0;w0,23,0;").hers(0), 2);
        // Told from the last hour to the first: each goes to his own room at his own hour.
        CrookedFrames down = Due.laid("f0,40;f1,40;f2,40;f3,40;p0,0;p0,0;w0,9,0;w1,8,0;w0,7,1;w1,6,2;w0,5,2;w1,4,3;");
        Due.is("hour 4, room 3", down.sets(1, 0), 3);
        Due.is("hour 5, room 2", down.sets(0, 0), 2);
        Due.is("hour 7, room 1", down.sets(0, 1), 1);
        Due.is("hour 8, room 0", down.sets(1, 1), 0);
        // Told behind two later hours, so that both go back by one.
        CrookedFrames between = Due.laid("f0,40;f1,40;p0,0;p0,0;p0,0;w0,5,0;w1,9,1;w2,3,2;w2,7,0;w2,8,1;");
        Due.is("hour 8 is ahead of 9", between.hers(0), 1 + 4);
        Due.is("hour 8, room 1", between.sets(2, 0), 1);
        // Comings of many hours, then all of one.
        CrookedFrames x = Due.laid("f0,40;p1,0;p1,0;p1,0;p1,0;p1,0;w4,9,0;w3,8,0;w2,8,0;w1,8,0;w0,8,0;"
                + "w4,8,1;w3,7,1;w2,9,0;w1,9,0;w0,7,2;");
        Due.is("20, 10, 5, 2, 1", x.angle(0, 0), 40);
        Due.is("all five", x.hers(0), 31);
    }

    // the PERSON, if he has set none right that DAY
    private static void oneADay() {
        CrookedFrames x = Due.laid("f0,40;f0,39;f1,38;p0,0;w0,0,0;w0,0,0;w0,23,1;");
        int[] want = {0, 1, 2, NONE};
        for (int day = 0; day < 4; day++) {
            Due.is("one on day " + day, x.sets(0, day), want[day]);
        }
        Due.is("the second waits", x.angle(1, 0), 59);
        Due.is("the third waits", x.angle(2, 1), 58);
        // One who bore all at his first coming may set one right at his next.
        CrookedFrames y = Due.laid("f0,20;f1,40;p0,0;w0,1,0;w0,2,1;");
        Due.is("at the next coming", y.sets(0, 0), 1);
        CrookedFrames z = Due.laid("f0,40;p1,0;w0,1,0;w0,2,0;");
        Due.is("not twice a day", z.angle(0, 0), 50);
    }

    // the first FRAME of that ROOM (by number)
    private static void firstFrameOfTheRoom() {
        for (int room = 0; room < 4; room++) {
            CrookedFrames x = Due.laid("f0,40;f1,40;f2,40;f3,40;p0,0;w0,0," + room + ";");
            Due.is("room " + room, x.sets(0, 0), room);
            Due.is("room " + room + " alone", x.sets(0, 1), NONE);
        }
        CrookedFrames last = Due.laid("f0,22;f0,18;f0,20;f1,0;f1,0;f1,40;f0,23;p0,2;w0,0,0;");
        Due.is("the seventh one", last.sets(0, 0), 6);
        Due.is("not the farthest, the first", Due.laid("f0,23;f0,40;p0,2;w0,0,0;").sets(0, 0), 0);
    }

    /** A frame at any angle within 40, seen by one person in the first morning. */
    private static CrookedFrames seenAt(int angle, int kind, int bears) {
        int told = Math.max(-20, Math.min(20, angle));
        return Due.laid("f0," + (told + 20) + ";n0,0," + (angle - told + 20) + ";p" + kind + "," + bears + ";w0,0,0;");
    }

    // farther from level (0, above or below) than he BEARS, LAZY ones: than twice what they BEAR
    private static void fartherThanHeBears() {
        for (int kind = 0; kind < 4; kind++) {
            for (int bears = 0; bears <= 20; bears++) {
                int limit = kind == 3 ? 2 * bears : bears;
                Due.is("borne above", seenAt(limit, kind, bears).hers(0), 0);
                Due.is("borne below", seenAt(-limit, kind, bears).hers(0), 0);
                if (limit < 40) {
                    Due.is("not borne above", seenAt(limit + 1, kind, bears).hers(0), 1);
                    Due.is("not borne below", seenAt(-limit - 1, kind, bears).hers(0), 1);
                }
            }
        }
    }

    // LEVEL ones set it to 0; HALF ones to half (towards 0, cut); OVER ones to half (cut) on the other
    // side; LAZY ones to what they BEAR on its side.
    private static void howTheySet() {
        int[][] half = {{1, 0}, {2, 1}, {3, 1}, {4, 2}, {5, 2}, {39, 19}, {40, 20}};
        for (int[] h : half) {
            for (int side = -1; side <= 1; side += 2) {
                Due.is("level from " + h[0], seenAt(side * h[0], 0, 0).angle(0, 0), 40);
                Due.is("half of " + h[0], seenAt(side * h[0], 1, 0).angle(0, 0), 40 + side * h[1]);
                Due.is("over from " + h[0], seenAt(side * h[0], 2, 0).angle(0, 0), 40 - side * h[1]);
                Due.is("lazy from " + h[0] + " to 0", seenAt(side * h[0], 3, 0).angle(0, 0), 40);
                Due.is("is hers, set to 0 or not", seenAt(side * h[0], 1, 0).hers(0), 1);
            }
        }
        for (int bears = 1; bears < 20; bears++) {
            Due.is("lazy above", seenAt(40, 3, bears).angle(0, 0), 40 + bears);
            Due.is("lazy below", seenAt(-40, 3, bears).angle(0, 0), 40 - bears);
            Due.is("lazy, just not borne", seenAt(2 * bears + 1, 3, bears).angle(0, 0), 40 + bears);
            Due.is("lazy, just not borne", seenAt(-2 * bears - 1, 3, bears).angle(0, 0), 40 - bears);
        }
        Due.is("lazy, bears all", seenAt(40, 3, 20).angle(0, 0), 80);
        Due.is("lazy, bears all", seenAt(-40, 3, 20).angle(0, 0), 0);
    }

    private static void hersAsBits() {
        for (int i = 0; i < 5; i++) {
            CrookedFrames x = Due.laid("f0,40;p0,0;p0,0;p0,0;p0,0;p0,0;w" + i + ",0,0;");
            Due.is("the bit of " + i, x.hers(0), 1 << i);
            Due.is("nobody on day 1", x.hers(1), 0);
        }
        CrookedFrames last = Due.laid("f0,20;n30,0,21;p0,0;w0,0,0;");
        Due.is("day 29", last.hers(29), 0);
        Due.is("day 30", last.hers(30), 1);
        Due.is("day 31", last.hers(31), BAD);
        Due.is("sets, day 29", last.sets(0, 29), NONE);
        Due.is("sets, day 30", last.sets(0, 30), 0);
        Due.is("sets, day 31", last.sets(0, 31), BAD);
    }

    // TURNS can be told: how many. FULL at 8.
    private static void turnsTold() {
        CrookedFrames x = Due.laid("f0,20;f0,20;");
        for (int n = 1; n <= 8; n++) {
            Due.is("told, " + n, x.turn(31 - n, n % 2, 5 * n), n);
            Due.is("its night", x.told(n - 1, 0), 31 - n);
            Due.is("its frame", x.told(n - 1, 1), n % 2);
            Due.is("its turn", x.told(n - 1, 2), 5 * n);
            Due.is("none behind it", x.told(n, 0), BAD);
        }
        Due.is("a ninth", x.turn(0, 0, 0), FULL);
        Due.is("eight", x.count(3), 8);
        Due.is("left out", x.leave(3), 7);
        Due.is("room for one", x.turn(0, 0, 0), 8);
        Due.is("not for two", x.turn(0, 0, 0), FULL);
        Due.is("told in the text and then", Due.laid("f0,0;" + "n0,0,0;".repeat(8)).turn(0, 0, 0), FULL);
        CrookedFrames edges = Due.laid("f0,20;");
        Due.is("by 20 down", edges.turn(0, 0, 0), 1);
        Due.is("by 20 down", edges.angle(0, 0), 20);
        Due.is("by none", edges.turn(0, 0, 20), 2);
        Due.is("by none", edges.angle(0, 0), 20);
        Due.is("by 20 up", edges.turn(30, 0, 40), 3);
        Due.is("by 20 up", edges.angle(0, 30), 40);
    }

    // left out (those behind come one down)
    private static void turnsLeftOut() {
        for (int size = 1; size <= 8; size++) {
            for (int k = 0; k < size; k++) {
                CrookedFrames x = Due.laid("f0,20;f0,20;f0,20;");
                for (int n = 0; n < size; n++) {
                    x.turn(n, n % 3, 30 + n);
                }
                Due.is("one beyond", x.leave(size), BAD);
                Due.is("leave(" + k + ") of " + size, x.leave(k), size - 1);
                for (int n = 0; n < size - 1; n++) {
                    int was = n < k ? n : n + 1;
                    Due.is("night of " + n, x.told(n, 0), was);
                    Due.is("frame of " + n, x.told(n, 1), was % 3);
                    Due.is("turn of " + n, x.told(n, 2), 30 + was);
                }
                Due.is("the last one is gone", x.told(size - 1, 0), BAD);
            }
        }
    }

    // UNDONE is the latest of these (the last 8 can be).
    private static void lastEightUndone() {
        for (int changes = 0; changes <= 20; changes++) {
            CrookedFrames x = Due.laid("f0,20;");
            for (int n = 0; n < changes; n++) {
                Due.is("can be undone", x.count(5), Math.min(n, 8));
                // Told, told, left out: one turn more with each three changes, if it is not full.
                int answer = n % 3 < 2 ? x.turn(n, 0, n) : x.leave(0);
                Due.is("is taken", Math.min(answer, 0), 0);
            }
            int can = Math.min(changes, 8);
            Due.is("can be undone", x.count(5), can);
            for (int n = can - 1; n >= 0; n--) {
                Due.is("undone of " + changes, x.undo(), n);
                Due.is("can be undone then", x.count(5), n);
            }
            Due.is("no more of " + changes, x.undo(), NO);
            int left = changes - can;
            Due.is("turns as they were then", x.count(3), left - 2 * (left / 3));
        }
    }

    private static void undoneBothWays() {
        CrookedFrames x = Due.laid("f0,20;n1,0,21;n2,0,22;n3,0,23;");
        x.leave(1);
        x.turn(4, 0, 24);
        Due.is("the turn more", x.undo(), 1);
        Due.is("two", x.count(3), 2);
        Due.is("the one left out", x.undo(), 0);
        for (int n = 0; n < 3; n++) {
            Due.is("in its place again: " + n, x.told(n, 2), 21 + n);
            Due.is("in its night again: " + n, x.told(n, 0), 1 + n);
        }
        // Undone, and something else told in its place.
        x.turn(4, 0, 24);
        x.undo();
        x.turn(5, 0, 25);
        Due.is("one can be", x.count(5), 1);
        Due.is("the latest", x.told(3, 2), 25);
        Due.is("undone", x.undo(), 0);
        Due.is("three again", x.count(3), 3);
        // A full shelf, one undone, one told: full again, and the oldest is gone for good.
        CrookedFrames y = Due.laid("f0,20;n0,0,20;");
        for (int n = 0; n < 9; n++) {
            y.leave(0);
            y.turn(n, 0, n);
        }
        y.undo();
        y.turn(10, 0, 10);
        Due.is("full again", y.count(5), 8);
        for (int n = 0; n < 8; n++) {
            y.undo();
        }
        Due.is("as it was eight ahead", y.told(0, 2), 4);
        Due.is("no more", y.undo(), NO);
    }

    private static void refusedIsNotUndone() {
        CrookedFrames x = Due.laid("f0,20;" + "n0,0,20;".repeat(8));
        x.turn(0, 0, 0);
        x.turn(0, 0, 41);
        x.leave(8);
        x.leave(-1);
        Due.is("nothing was taken", x.count(5), 0);
        Due.is("nothing to undo", x.undo(), NO);
        x.leave(0);
        x.leave(7);
        x.turn(31, 0, 0);
        Due.is("one was taken", x.count(5), 1);
        Due.is("one undone", x.undo(), 0);
        Due.is("eight again", x.count(3), 8);
    }

    /** Days that were asked for are played anew behind all that changes them. */
    private static void daysAreNewBehindTurns() {
        CrookedFrames x = Due.laid("f0,20;p0,5;w0,0,0;");
        Due.is("nobody yet", x.hers(0), 0);
        x.turn(0, 0, 26);
        Due.is("behind turn", x.hers(0), 1);
        x.undo();
        Due.is("behind undo", x.hers(0), 0);
        x.turn(0, 0, 26);
        x.keep();
        Due.is("behind turn again", x.hers(0), 1);
        x.leave(0);
        Due.is("behind leave", x.hers(0), 0);
        x.back();
        Due.is("behind back", x.hers(0), 1);
        x.lay();
        Due.is("behind lay", x.hers(0), 0);
    }

    // REST: the first DAY from which on, to 30, all ANGLES are .. as .. the DAY ahead (at DAY 0: as told); none.
    private static void restAtItsEdges() {
        for (int night = 0; night <= 29; night++) {
            Due.is("turned in night " + night, Due.laid("f0,20;n" + night + ",0,21;").rest(), night + 1);
        }
        Due.is("turned in night 30", Due.laid("f0,20;n30,0,21;").rest(), NONE);
        Due.is("never turned", Due.laid("f0,20;").rest(), 0);
        Due.is("turned by none", Due.laid("f0,20;n30,0,20;").rest(), 0);
        Due.is("all, not one", Due.laid("f0,20;f0,20;n3,0,21;n7,1,21;").rest(), 8);
        Due.is("the seventh frame", Due.laid("f0,20;".repeat(7) + "n9,6,21;").rest(), 10);
        Due.is("twisted and set right", Due.laid("f0,20;t0,10;p0,0;w0,0,0;").rest(), 0);
        Due.is("set right on day 0, not as told", Due.laid("f0,21;t0,10;p0,0;w0,0,0;").rest(), 1);
        // By 1 each night from 10 below level to 20 above on day 29, and on to 21 on day 30.
        Due.is("twisted on day 30, too", Due.laid("f0,10;t0,6;").rest(), NONE);
        Due.is("kept within on day 30", Due.laid("f0,31;t0,6;").rest(), 29);
        Due.is("kept within on day 30 alone", Due.laid("f0,30;t0,6;").rest(), 30);
        Due.is("met on day 30", Due.laid("f0,29;t0,6;").rest(), NONE);
    }

    // SWAYS: how many FRAMES have ANGLES at the ends of DAYS that are not all alike.
    private static void swaysAtItsEdges() {
        for (int night = 0; night <= 30; night++) {
            // Told, day 0 is as all that follow: the angle as told is no end of a day.
            Due.is("turned in night " + night, Due.laid("f0,20;n" + night + ",0,21;").sways(), night == 0 ? 0 : 1);
        }
        for (int frames = 0; frames <= 7; frames++) {
            StringBuilder text = new StringBuilder("f0,20;".repeat(7));
            for (int k = 0; k < frames; k++) {
                text.append("t").append(k).append(",6;");
            }
            Due.is(frames + " sway", Due.laid(text.toString()).sways(), frames);
        }
        Due.is("there and back in one night", Due.laid("f0,20;n5,0,21;n5,0,19;").sways(), 0);
        for (int night = 0; night < 30; night++) {
            Due.is("for one day", Due.laid("f0,20;n" + night + ",0,21;n" + (night + 1) + ",0,19;").sways(), 1);
        }
        Due.is("set right each day", Due.laid("f0,20;t0,10;p0,0;w0,0,0;").sways(), 0);
        Due.is("kept within from day 0 on", Due.laid("f0,40;n0,0,40;t0,10;").sways(), 0);
    }

    // of a FRAME by 1 to 20 either way
    private static void temptByOneToTwenty() {
        for (int bears = 0; bears <= 20; bears++) {
            CrookedFrames x = Due.laid("f0,20;p0," + bears + ";w0,0,0;");
            Due.is("bears " + bears, x.tempt(0, 0), bears < 20 ? 20 + bears + 1 : NONE);
            // From 1 below; who bears nothing has set it to 0 on the day ahead.
            CrookedFrames y = Due.laid("f0,19;p0," + bears + ";w0,0,0;");
            Due.is("1 below, bears " + bears, y.tempt(0, 30), bears == 0 ? 21 : 20 - bears);
        }
        Due.is("lazy, 9: 19", Due.laid("f0,20;p3,9;w0,0,0;").tempt(0, 0), 39);
        Due.is("lazy, 10: 21 is too much", Due.laid("f0,20;p3,10;w0,0,0;").tempt(0, 0), NONE);
        Due.is("lazy, 10, from 1: by 20", Due.laid("f0,21;p3,10;w0,0,0;").tempt(0, 0), 40);
        Due.is("lazy, 10, from 1 below: by 20 down", Due.laid("f0,19;p3,10;w0,0,0;").tempt(0, 0), 0);
        Due.is("lazy, 20 bears all", Due.laid("f0,40;t0,10;p3,20;w0,0,0;").tempt(0, 30), NONE);
    }

    // which is by least, of several the first FRAME, of it the one upwards: 100 times the FRAME
    private static void temptOfSeveral() {
        Due.is("the least", Due.laid("f0,20;f0,24;f0,23;p0,5;w0,0,0;").tempt(0, 0), 122);
        Due.is("the first frame", Due.laid("f0,20;f0,16;f0,24;p0,5;w0,0,0;").tempt(0, 0), 118);
        Due.is("upwards", Due.laid("f0,20;f0,20;p0,5;w0,0,0;").tempt(0, 0), 26);
        Due.is("the first frame, downwards, ahead of the next, upwards",
                Due.laid("f0,15;f0,25;p0,5;w0,0,0;").tempt(0, 0), 19);
        Due.is("the seventh frame", Due.laid("f1,20;".repeat(6) + "f0,20;p0,19;w0,0,0;").tempt(0, 0), 640);
        Due.is("the seventh frame, down", Due.laid("f1,20;".repeat(6) + "f0,19;p0,20;w0,0,0;").tempt(0, 0), 600);
        Due.is("any turn, if he is hers anyhow", Due.laid("f1,20;f0,40;p0,5;w0,0,0;").tempt(0, 0), 21);
        Due.is("but for those by which he is not", Due.laid("f0,26;p0,5;w0,0,0;").tempt(0, 0), 21);
        // He bears 5, another one comes ahead who bears 5, too, and levels it: down from 20 nothing helps.
        Due.is("the one ahead takes it", Due.laid("f0,20;p0,5;p0,5;w0,0,0;w1,1,0;").tempt(1, 0), NONE);
        Due.is("the one ahead takes the first", Due.laid("f0,40;f0,20;p0,5;p0,5;w0,0,0;w1,1,0;").tempt(1, 0), 126);
    }

    private static void temptKeptWithin() {
        // At 40 no turn upwards changes it, and it is borne; downwards it only comes nearer to level.
        Due.is("at 40", Due.laid("f0,40;n0,0,40;p3,20;w0,0,0;").tempt(0, 0), NONE);
        Due.is("at 40, hers anyhow", Due.laid("f0,40;n0,0,40;p3,19;w0,0,0;").tempt(0, 0), 21);
        // At 38, lazy 19 bears it; by 1 to 39.
        Due.is("at 38", Due.laid("f0,40;n0,0,38;p3,19;w0,0,0;").tempt(0, 0), 21);
        Due.is("at 38 below", Due.laid("f0,0;n0,0,2;p3,19;w0,0,0;").tempt(0, 0), 19);
        // From 40, level at 5 is hers anyhow; the next one needs what the first bears: 12, so by 8 from 20.
        Due.is("back to what the first one bears", Due.laid("f0,40;p0,12;p0,9;w0,0,0;w1,1,0;").tempt(1, 0), 12);
    }

    // in its night (behind all others)
    private static void temptBehindAllOthers() {
        // 20 up to 40, kept within, 20 down to 20; a turn more ahead of these would change nothing.
        CrookedFrames x = Due.laid("f0,40;n0,0,40;n0,0,0;p3,10;w0,0,0;");
        Due.is("behind the others", x.tempt(0, 0), 21);
        // Of day 1 with what day 0 left: 0, by its wire 3, so 3 more to 6.
        CrookedFrames y = Due.laid("f0,40;t0,8;p0,5;w0,0,0;");
        Due.is("of day 1", y.tempt(0, 1), 23);
        Due.is("the turn is not told", y.count(3), 0);
        // In the night of the day itself, not of one ahead.
        Due.is("of day 0", Due.laid("f0,20;n1,0,26;p0,5;w0,0,0;").tempt(0, 0), 26);
        Due.is("of day 1, hers anyhow", Due.laid("f0,20;n1,0,27;p0,5;w0,0,0;").tempt(0, 1), 21);
    }

    // 0, too, is one
    private static void fewestOfNone() {
        int[] persons = {0, 1, 5};
        for (int size : persons) {
            CrookedFrames x = Due.laid("f0,20;" + "p0,0;".repeat(size));
            Due.is("none of " + size, x.fewest(0, 0), 0);
            Due.is("none of " + size, x.fewest(0, 30), 0);
            Due.is("all of " + size, x.fewest((1 << size) - 1, 0), size == 0 ? 0 : NONE);
            Due.is("one beyond " + size, x.fewest(1 << size, 0), BAD);
            Due.is("below none of " + size, x.fewest(-1, 0), BAD);
        }
    }

    // (0, 1, 2 ..), whichever, it takes that all of these are HERS; none
    private static void fewestOneOrTwo() {
        CrookedFrames x = Due.laid("f0,40;f1,20;f2,20;f3,20;p0,5;p0,5;p0,5;p0,5;w0,0,0;w1,0,1;w2,0,2;w3,0,3;");
        int[] want = {0, 0, 1, 1, 1, 1, 2, 2, 1, 1, 2, 2, 2, 2, NONE, NONE};
        for (int set = 0; set < 16; set++) {
            Due.is("fewest(" + set + ")", x.fewest(set, 0), want[set]);
        }
        // One turn that loses one of them and gets the other is none for both.
        CrookedFrames y = Due.laid("f0,40;p0,12;p0,9;w0,0,0;w1,1,0;");
        Due.is("the first", y.fewest(1, 0), 0);
        Due.is("the second", y.fewest(2, 0), 1);
        Due.is("not both", y.fewest(3, 0), NONE);
        // By 20, not by 21.
        Due.is("by 20", Due.laid("f0,20;p0,19;w0,0,0;").fewest(1, 0), 1);
        Due.is("by 21", Due.laid("f0,20;p0,20;w0,0,0;").fewest(1, 0), 2);
        // Two of two frames, each by 20.
        CrookedFrames z = Due.laid("f0,20;f1,20;p0,19;p0,19;w0,0,0;w1,0,1;");
        Due.is("both by 20", z.fewest(3, 30), 2);
    }

    // two also of one FRAME, one behind the other
    private static void fewestTwoOfOneFrame() {
        // Lazy 10 to 19 need 21 to 39 from 0; 20 needs 41, which is beyond all angles.
        for (int bears = 0; bears <= 20; bears++) {
            CrookedFrames x = Due.laid("f0,20;p3," + bears + ";w0,0,0;");
            Due.is("lazy " + bears, x.fewest(1, 0), bears < 10 ? 1 : bears < 20 ? 2 : NONE);
        }
        // Two persons, one frame at 40: to be borne by the first it must come to 1, by 39 in two turns.
        CrookedFrames x = Due.laid("f0,40;n0,0,40;p0,1;p0,0;w0,0,0;w1,1,0;");
        Due.is("by 39", x.fewest(2, 0), 2);
        Due.is("safe from one", x.safe(0), 2);
        CrookedFrames y = Due.laid("f0,40;n0,0,40;p0,0;p0,0;w0,0,0;w1,1,0;");
        Due.is("what tempts the second tempts the first", y.fewest(2, 0), NONE);
    }

    /** The second one needs a frame at 1, which one turn meets on day 0 and not on day 1. */
    private static void fewestOfDaysOneBehindTheOther() {
        String people = "p0,1;p0,0;w0,0,0;w1,1,0;";
        String[] frames = {"f0,20;", "f0,39;", "f0,1;"};
        for (String frame : frames) {
            CrookedFrames x = Due.laid(frame + "n1,0,40;n1,0,40;" + people);
            for (int n = 0; n < 2; n++) {
                Due.is("near level", x.fewest(2, 0), 1);
                Due.is("near level, not safe", x.safe(0) & 2, 0);
                Due.is("at 40", x.fewest(2, 1), 2);
                Due.is("at 40, safe", x.safe(1), 2);
            }
        }
        // Another frame needs a turn, too: on day 1 that makes three.
        CrookedFrames two = Due.laid("f1,20;f0,20;n1,1,40;n1,1,40;" + people + "p0,1;w2,0,1;");
        Due.is("one of each", two.fewest(6, 0), 2);
        Due.is("one and two", two.fewest(6, 1), NONE);
        CrookedFrames turned = Due.laid("f0,20;f1,20;n1,0,40;n1,0,40;" + people + "p0,1;w2,0,1;");
        Due.is("one of each", turned.fewest(6, 0), 2);
        Due.is("two and one", turned.fewest(6, 1), NONE);
        // Frame 0 must be borne by the first one, who then leaves frame 1 so that the third one minds it
        // and the second does not: it is 40 to 20 by one turn, and he bears 10.
        CrookedFrames freed = Due.laid("f0,40;f1,40;n0,0,40;n0,1,40;p3,5;p0,8;p0,3;w0,1,0;w0,2,1;w1,3,1;w2,4,1;");
        Due.is("the first two", freed.hers(0), 3);
        Due.is("the third one by two", freed.fewest(4, 0), 2);
        Due.is("the third one is safe from one", freed.safe(0), 4);
    }

    // SAFE: PERSONS (bits) who are not HERS on a DAY and whom no single such TURN makes HERS on it.
    private static void safeAtItsEdges() {
        for (int bears = 0; bears <= 20; bears++) {
            CrookedFrames x = Due.laid("f0,20;p0," + bears + ";p3," + bears + ";w0,0,0;");
            Due.is("bears " + bears, x.safe(0), bears < 20 ? 2 : 3);
        }
        Due.is("from 1", Due.laid("f0,21;p0,20;w0,0,0;").safe(0), 0);
        Due.is("lazy 10 from 0", Due.laid("f0,20;p3,10;w0,0,0;").safe(0), 1);
        Due.is("lazy 10 from 1", Due.laid("f0,21;p3,10;w0,0,0;").safe(0), 0);
        Due.is("lazy 20 from 40", Due.laid("f0,40;t0,10;p3,20;w0,0,0;").safe(30), 1);
        Due.is("hers is not safe", Due.laid("f0,40;p0,0;w0,0,0;").safe(0), 0);
        Due.is("all five never come", Due.laid("f0,40;p0,0;p0,0;p0,0;p0,0;p0,0;").safe(30), 31);
        Due.is("nobody there", Due.laid("f0,40;").safe(0), 0);
        Due.is("a room without frames", Due.laid("f0,40;p0,0;w0,0,1;").safe(0), 1);
    }

    /** He is hers, and every single turn more loses him: no turn tempts him, yet he is not safe. */
    private static void hersOnlyAsItHangs() {
        for (int side = -1; side <= 1; side += 2) {
            // At 16 the one ahead levels it, at 14 he bears it himself, and 15 on the other side is 30 away.
            CrookedFrames x = Due.laid("f0," + (20 + 15 * side) + ";p0,15;p0,14;w0,0,0;w1,1,0;");
            Due.is("hers", x.hers(0), 2);
            Due.is("no turn by which he is", x.tempt(1, 0), NONE);
            Due.is("not safe, nor is the other one", x.safe(0), 0);
            Due.is("it takes none", x.fewest(2, 0), 0);
            Due.is("both at once: never", x.fewest(3, 0), NONE);
            Due.is("the other one by a turn", x.tempt(0, 0), 20 + side);
        }
    }

    // HANG: the least HAIRS, together .. ; how many FRAMES have to be.
    private static void hangAtItsEdges() {
        for (int kind = 0; kind < 4; kind++) {
            for (int bears = 0; bears <= 20; bears++) {
                int limit = Math.min(20, kind == 3 ? 2 * bears : bears);
                CrookedFrames x = Due.laid("f0,40;f0,0;f0," + (20 + limit) + ";f0," + (20 - limit) + ";f1,40;p" + kind
                        + "," + bears + ";p0,0;w0,0,0;");
                Due.is("hairs, " + kind + " bears " + bears, x.hang(0), 2 * (20 - limit));
                Due.is("frames, " + kind + " bears " + bears, x.hang(1), limit < 20 ? 2 : 0);
            }
        }
        CrookedFrames all = Due.laid("f0,40;f0,0;f0,40;f0,0;f0,40;f0,0;f0,40;p0,20;p0,0;w0,0,0;w1,0,0;");
        Due.is("all the way", all.hang(0), 140);
        Due.is("all of them", all.hang(1), 7);
        Due.is("by one hair", Due.laid("f0,26;p0,5;w0,0,0;").hang(0), 1);
        Due.is("as told, not as turned", Due.laid("f0,20;t0,10;n0,0,40;p0,0;w0,0,0;").hang(0), 0);
        Due.is("nobody comes", Due.laid("f0,40;p0,0;").hang(0), 0);
        Due.is("nobody comes there", Due.laid("f0,40;p0,0;w0,0,3;").hang(1), 0);
        // He would set but one right a day; all have to hang right for him.
        Due.is("not only the first", Due.laid("f0,22;f0,23;p0,0;w0,0,0;").hang(0), 5);
        // Another one who comes ahead changes nothing: it is as it hangs.
        Due.is("not behind another one", Due.laid("f0,40;p0,12;p0,9;w0,0,0;w1,1,0;").hang(0), 11);
    }
}
